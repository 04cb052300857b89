-- part 26: writing into one array, loops, what stays
theorem jK (x : Int32) (a : Nat) {b : Nat} (hx : x = Int32.ofNat a) (hb : b < a) (ha : a < 2147483648) : ¬ x ≤ Int32.ofNat b := fun q => absurd ((jI_le ha (by omega)).mp (hx ▸ q)) (by omega)
theorem n10 : ¬ (1 : Int32) = 0 := by decide
theorem bTn : ¬ b2 (true = true) = 0 := by decide
theorem bFF : ¬ b2 (false = false) = 0 := by decide
theorem bTF : b2 (true = false) = 0 := by decide
theorem bFn : b2 (false = true) = 0 := by decide
def sI (S : cSt) (a : Nat) (f : Nat → Int32) : cSt := (S.1, S.2.1, S.2.2.1, upr S.2.2.2.1 a f, S.2.2.2.2)
def sO (S : cSt) (a : Nat) (g : Nat → Option Nat) : cSt := (S.1, S.2.1, S.2.2.1, S.2.2.2.1, upr S.2.2.2.2.1 a g, S.2.2.2.2.2)
def upo (f : Nat → Option Nat) (i : Nat) (x : Option Nat) : Nat → Option Nat := fun j => if j = i then x else f j
theorem upo_s (f : Nat → Option Nat) (i : Nat) (x : Option Nat) : upo f i x i = x := by simp [upo]
theorem upo_o (f : Nat → Option Nat) {i j : Nat} (x : Option Nat) (h : j ≠ i) : upo f i x j = f j := by simp [upo, h]
theorem kI_sI (S : cSt) (a : Nat) (f : Nat → Int32) : kI (sI S a f) a = f := by funext j; simp [kI, sI, upr]
theorem kI_sIo (S : cSt) {a b : Nat} (f : Nat → Int32) (h : b ≠ a) : kI (sI S a f) b = kI S b := by funext j; simp [kI, sI, upr, h]
theorem kO_sO (S : cSt) (a : Nat) (f : Nat → Option Nat) : kO (sO S a f) a = f := by funext j; simp [kO, sO, upr]
theorem kO_sOo (S : cSt) {a b : Nat} (f : Nat → Option Nat) (h : b ≠ a) : kO (sO S a f) b = kO S b := by funext j; simp [kO, sO, upr, h]
theorem upr_up2 {f : Nat → Nat → Int32} (a i : Nat) (x : Int32) : up2 f a i x = upr f a (upd (f a) i x) := by
  funext b j
  unfold up2 upr upd
  by_cases h : b = a
  · subst h; by_cases h2 : j = i <;> simp [h2]
  · simp [h]
theorem upr_up2o {f : Nat → Nat → Option Nat} (a i : Nat) (x : Option Nat) : up2 f a i x = upr f a (upo (f a) i x) := by
  funext b j
  unfold up2 upr upo
  by_cases h : b = a
  · subst h; by_cases h2 : j = i <;> simp [h2]
  · simp [h]
theorem upr_upr {α : Type} (f : Nat → Nat → α) (a : Nat) (g h : Nat → α) : upr (upr f a g) a h = upr f a h := by
  funext b
  unfold upr
  by_cases e : b = a <;> simp [e]
theorem upr_id {α : Type} (f : Nat → Nat → α) (a : Nat) : upr f a (f a) = f := by
  funext b
  unfold upr
  by_cases e : b = a <;> simp [e]
theorem cWi_sI (S : cSt) (a i : Nat) (x : Int32) : cWi S a i x = sI S a (upd (kI S a) i x) := by unfold cWi sI kI; rw [upr_up2]
theorem cWo_sO (S : cSt) (a i : Nat) (x : Option Nat) : cWo S a i x = sO S a (upo (kO S a) i x) := by unfold cWo sO kO; rw [upr_up2o]
theorem sI_sI (S : cSt) (a : Nat) (f g : Nat → Int32) : sI (sI S a f) a g = sI S a g := by unfold sI; rw [upr_upr]
theorem sO_sO (S : cSt) (a : Nat) (f g : Nat → Option Nat) : sO (sO S a f) a g = sO S a g := by unfold sO; rw [upr_upr]
theorem sI_id (S : cSt) (a : Nat) : sI S a (kI S a) = S := by unfold sI kI; rw [upr_id]
theorem sO_id (S : cSt) (a : Nat) : sO S a (kO S a) = S := by unfold sO kO; rw [upr_id]
theorem wI_sI (S : cSt) (a i : Nat) (f : Nat → Int32) (x : Int32) : cWi (sI S a f) a i x = sI S a (upd f i x) := by rw [cWi_sI, kI_sI, sI_sI]
theorem wO_sO (S : cSt) (a i : Nat) (f : Nat → Option Nat) (x : Option Nat) : cWo (sO S a f) a i x = sO S a (upo f i x) := by rw [cWo_sO, kO_sO, sO_sO]
/-- loops, by what holds ahead of each round -/
theorem loopI {σ β : Type} {F : Nat → σ → Nat → Option β} {N : Nat} {Q : β → Prop} (I : Nat → σ → Prop)
    (he : ∀ n st, I N st → ∃ b, F (n + 1) st N = some b ∧ Q b)
    (hs : ∀ n st i, i < N → I i st → (∃ st', I (i + 1) st' ∧ F (n + 1) st i = F n st' (i + 1)) ∨ ∃ b, F (n + 1) st i = some b ∧ Q b) :
    ∀ (j i fu : Nat) (st : σ), i + j = N → j < fu → I i st → ∃ b, F fu st i = some b ∧ Q b := by
  intro j
  induction j with
  | zero =>
    intro i fu st hi hf h
    obtain ⟨fu, rfl⟩ : ∃ q, fu = q + 1 := ⟨fu - 1, by omega⟩
    have e : i = N := by omega
    subst e
    exact he fu st h
  | succ j ih =>
    intro i fu st hi hf h
    obtain ⟨fu, rfl⟩ : ∃ q, fu = q + 1 := ⟨fu - 1, by omega⟩
    rcases hs fu st i (by omega) h with ⟨st', h1, h2⟩ | h1
    · rw [h2]; exact ih (i + 1) fu st' (by omega) (by omega) h1
    · exact h1
theorem walkDI {σ β : Type} {ra : Nat → Nat} {L : List Nat} {F : Nat → σ → Option Nat → Option β} {Q : β → Prop} (I : Nat → σ → Prop)
    (hn : ∀ n st, I 0 st → ∃ b, F (n + 1) st none = some b ∧ Q b)
    (hc : ∀ n st i (h : i < L.length), I (i + 1) st → (∃ st', I i st' ∧ F (n + 1) st (some (ra L[i])) = F n st' (pvL ra L i)) ∨ ∃ b, F (n + 1) st (some (ra L[i])) = some b ∧ Q b) :
    ∀ (i fu : Nat) (st : σ), i ≤ L.length → i < fu → I i st → ∃ b, F fu st (pvL ra L i) = some b ∧ Q b := by
  intro i
  induction i with
  | zero =>
    intro fu st _ hf h
    obtain ⟨fu, rfl⟩ : ∃ q, fu = q + 1 := ⟨fu - 1, by omega⟩
    exact hn fu st h
  | succ i ih =>
    intro fu st hi hf h
    obtain ⟨fu, rfl⟩ : ∃ q, fu = q + 1 := ⟨fu - 1, by omega⟩
    have hlt : i < L.length := by omega
    have e1 : pvL ra L (i + 1) = some (ra L[i]) := by
      unfold pvL
      rw [if_neg (by omega), Nat.add_sub_cancel, List.getElem?_eq_getElem hlt]; rfl
    rw [e1]
    rcases hc fu st i hlt h with ⟨st', h1, h2⟩ | h1
    · rw [h2]; exact ih fu st' (by omega) (by omega) h1
    · exact h1
theorem walkAI {σ β : Type} {ra : Nat → Nat} {L : List Nat} {F : Nat → σ → Option Nat → Option β} {Q : β → Prop} (I : Nat → σ → Prop)
    (hn : ∀ n st, I L.length st → ∃ b, F (n + 1) st none = some b ∧ Q b)
    (hc : ∀ n st i (h : i < L.length), I i st → (∃ st', I (i + 1) st' ∧ F (n + 1) st (some (ra L[i])) = F n st' (nxL ra L (i + 1))) ∨ ∃ b, F (n + 1) st (some (ra L[i])) = some b ∧ Q b) :
    ∀ (j i fu : Nat) (st : σ), i + j = L.length → j < fu → I i st → ∃ b, F fu st (nxL ra L i) = some b ∧ Q b := by
  intro j
  induction j with
  | zero =>
    intro i fu st hi hf h
    obtain ⟨fu, rfl⟩ : ∃ q, fu = q + 1 := ⟨fu - 1, by omega⟩
    have e1 : nxL ra L i = none := by unfold nxL; rw [List.getElem?_eq_none (by omega)]; rfl
    have e : i = L.length := by omega
    subst e
    rw [e1]; exact hn fu st h
  | succ j ih =>
    intro i fu st hi hf h
    obtain ⟨fu, rfl⟩ : ∃ q, fu = q + 1 := ⟨fu - 1, by omega⟩
    have hlt : i < L.length := by omega
    have e1 : nxL ra L i = some (ra L[i]) := by unfold nxL; rw [List.getElem?_eq_getElem hlt]; rfl
    rw [e1]
    rcases hc fu st i hlt h with ⟨st', h1, h2⟩ | h1
    · rw [h2]; exact ih (i + 1) fu st' (by omega) (by omega) h1
    · exact h1
/-- all but the contents at some addresses is as it was -/
def cEq (W : Nat → Prop) (S S' : cSt) : Prop := (∀ a, kK S' a = kK S a) ∧ (∀ a, kL S' a = kL S a) ∧ kZ S' = kZ S ∧ (∀ i, kT S' i = kT S i) ∧ ∀ a, ¬ W a → kF S' a = kF S a ∧ kR S' a = kR S a ∧ kI S' a = kI S a ∧ kO S' a = kO S a
theorem cEq_refl (W : Nat → Prop) (S : cSt) : cEq W S S := ⟨fun _ => rfl, fun _ => rfl, rfl, fun _ => rfl, fun _ _ => ⟨rfl, rfl, rfl, rfl⟩⟩
theorem cEq_trans {W : Nat → Prop} {S S' S'' : cSt} (h : cEq W S S') (h' : cEq W S' S'') : cEq W S S'' :=
  ⟨fun a => (h'.1 a).trans (h.1 a), fun a => (h'.2.1 a).trans (h.2.1 a), h'.2.2.1.trans h.2.2.1, fun a => (h'.2.2.2.1 a).trans (h.2.2.2.1 a), fun a ha =>
    ⟨(h'.2.2.2.2 a ha).1.trans (h.2.2.2.2 a ha).1, (h'.2.2.2.2 a ha).2.1.trans (h.2.2.2.2 a ha).2.1, (h'.2.2.2.2 a ha).2.2.1.trans (h.2.2.2.2 a ha).2.2.1, (h'.2.2.2.2 a ha).2.2.2.trans (h.2.2.2.2 a ha).2.2.2⟩⟩
theorem cEq_mono {W W' : Nat → Prop} {S S' : cSt} (h : cEq W S S') (hW : ∀ a, W a → W' a) : cEq W' S S' :=
  ⟨h.1, h.2.1, h.2.2.1, h.2.2.2.1, fun a ha => h.2.2.2.2 a (fun q => ha (hW a q))⟩
theorem cEq_sI {W : Nat → Prop} {S : cSt} {p : Nat} (f : Nat → Int32) (h : W p) : cEq W S (sI S p f) :=
  ⟨fun _ => rfl, fun _ => rfl, rfl, fun _ => rfl, fun a ha => ⟨rfl, rfl, kI_sIo S f (fun e => ha (e ▸ h)), rfl⟩⟩
theorem cEq_sO {W : Nat → Prop} {S : cSt} {p : Nat} (f : Nat → Option Nat) (h : W p) : cEq W S (sO S p f) :=
  ⟨fun _ => rfl, fun _ => rfl, rfl, fun _ => rfl, fun a ha => ⟨rfl, rfl, rfl, kO_sOo S f (fun e => ha (e ▸ h))⟩⟩
theorem cEq_cPi {W : Nat → Prop} {S : cSt} {p k : Nat} (x : Int32) (h : W p) : cEq W S (cPi S p k x) :=
  ⟨fun _ => rfl, fun _ => rfl, rfl, fun _ => rfl, fun a ha => ⟨by
    funext j
    show up2 S.2.1 p k x a j = S.2.1 a j
    unfold up2
    exact if_neg (fun e : a = p ∧ j = k => ha (e.1 ▸ h)), rfl, rfl, rfl⟩⟩
theorem cEq_cPr {W : Nat → Prop} {S : cSt} {p k : Nat} (x : Option Nat) (h : W p) : cEq W S (cPr S p k x) :=
  ⟨fun _ => rfl, fun _ => rfl, rfl, fun _ => rfl, fun a ha => ⟨rfl, by
    funext j
    show up2 S.2.2.1 p k x a j = S.2.2.1 a j
    unfold up2
    exact if_neg (fun e : a = p ∧ j = k => ha (e.1 ▸ h)), rfl, rfl⟩⟩
theorem cRow_eq {M : mSt} {sl ch : Nat → Int32} {S S' : cSt} {r a : Nat} {W : Nat → Prop} (h : cRow M sl ch S r a) (e : cEq W S S') (h1 : ¬ W a) (h2 : ∀ b, b + 1 = a → ¬ W b) : cRow M sl ch S' r a := by
  obtain ⟨c1, c2, c3, c4, c5, va, c6, c7, c8, c9, c10⟩ := h
  obtain ⟨e1, e2, e3, e4, e5⟩ := e
  have a1 := e5 a h1
  have a2 := e5 va (h2 va c6)
  unfold cRow
  rw [e1, a1.1, a1.2.1]
  exact ⟨c1, c2, c3, c4, c5, va, c6, c7, by rw [e1]; exact c8, by rw [e2]; exact c9, by rw [a2.2.2.1]; exact c10⟩
section V
variable {M : mSt} {ra : Nat → Nat} {sl ch : Nat → Int32} {made : Nat → Prop} {mkO : Nat → Option Nat} {S S' : cSt} {bk la va ua up vb : Nat} {l : List Nat} {W : Nat → Prop}
theorem cBk_eq (h : cBk M ra sl ch made mkO S bk) (e : cEq W S S') (hW : ∀ a, W a → (a < bk ∨ bk + 5 ≤ a) ∧ a < bk + 128) : cBk M ra sl ch made mkO S' bk := by
  have n0 : ∀ k, k < 5 → ¬ W (bk + k) := fun k hk q => by have := (hW _ q).1; omega
  have nr : ∀ a, bk + 128 ≤ a → ¬ W a := fun a ha q => by have := (hW _ q).2; omega
  obtain ⟨⟨b1, b2, b3, b4, b5, b6⟩, ⟨c1, c2, c3, c4, c5, c6, c7, c8⟩, d1, d2, d3⟩ := h
  have e0 := e.2.2.2.2 bk (n0 0 (by decide))
  have e1 := e.2.2.2.2 (bk + 1) (n0 1 (by decide))
  have e2 := e.2.2.2.2 (bk + 2) (n0 2 (by decide))
  refine ⟨⟨by rw [e.1]; exact b1, by rw [e0.2.1]; exact b2, by rw [e0.2.1]; exact b3, by rw [e0.2.1]; exact b4, by rw [e0.2.1]; exact b5, b6⟩, ?_, ?_, ?_, ?_⟩
  · simp only [e.1, e.2.1]; exact ⟨c1, c2, c3, c4, c5, c6, c7, c8⟩
  · intro r hr hm
    obtain ⟨q1, q2⟩ := d1 r hr hm
    refine ⟨by rw [e1.2.2.2]; exact q1, cRow_eq q2 e (nr _ ?_) (fun b hb => nr _ ?_)⟩
    · have := b6 r hm; omega
    · have := b6 r hm; omega
  · intro r hr hm; rw [e1.2.2.2]; exact d2 r hr hm
  · intro j hj; rw [e2.2.2.2]; exact d3 j hj
theorem cLay_eq (h : cLay S la bk) (e : cEq W S S') (hW : ∀ a, W a → a < la ∨ la + 8 ≤ a) : cLay S' la bk := by
  have e0 := e.2.2.2.2 la (fun q => by have := hW _ q; omega)
  unfold cLay
  simp only [e.1, e.2.1, e0.2.1]
  exact h
theorem cDl_eq {c : Nat} {L : List Nat} (h : cDl ra S la c L) (e : cEq W S S') (hW : ∀ a, W a → a < la ∨ la + 8 ≤ a) : cDl ra S' la c L := by
  have n0 : ∀ k, k < 8 → ¬ W (la + k) := fun k hk q => by have := hW _ q; omega
  unfold cDl
  rw [(e.2.2.2.2 _ (n0 6 (by decide))).2.2.2, (e.2.2.2.2 _ (n0 7 (by decide))).2.2.2, (e.2.2.2.2 _ (n0 4 (by decide))).2.2.2, (e.2.2.2.2 _ (n0 5 (by decide))).2.2.2]
  exact h
theorem cLed_eq (h : cLed M ra ch S la bk l) (e : cEq W S S') (hW : ∀ a, W a → a < la ∨ la + 8 ≤ a) : cLed M ra ch S' la bk l := by
  have n0 : ∀ k, k < 8 → ¬ W (la + k) := fun k hk q => by have := hW _ q; omega
  obtain ⟨h1, h2, h3, h4, h5, h6⟩ := h
  refine ⟨cLay_eq h1 e hW, ?_, ?_, ?_, ?_, fun c hc => cDl_eq (h6 c hc) e hW⟩
  · rw [(e.2.2.2.2 la (n0 0 (by decide))).1]; exact h2
  · rw [(e.2.2.2.2 _ (n0 1 (by decide))).2.2.1, (e.2.2.2.2 _ (n0 2 (by decide))).2.2.1]; exact h3
  · rw [(e.2.2.2.2 _ (n0 2 (by decide))).2.2.1]; exact h4
  · rw [(e.2.2.2.2 _ (n0 3 (by decide))).2.2.1]; exact h5
theorem cVw_eq (h : cVw M S va bk la ua up l) (e : cEq W S S') (h1 : ¬ W va) (h2 : ¬ W ua) : cVw M S' va bk la ua up l := by
  have e0 := e.2.2.2.2 va h1
  have e1 := e.2.2.2.2 ua h2
  unfold cVw
  rw [e.1, e.1, e.2.1, e0.1, e0.2.1, e1.2.2.1]
  exact h
/-- a view's own arrays -/
def vwA (S : cSt) (va vb : Nat) : Prop := (kR S va 0 = some vb ∧ kR S va 3 = some (vb + 1) ∧ kR S va 4 = some (vb + 2) ∧ kR S va 5 = some (vb + 3) ∧ kR S va 6 = some (vb + 4)) ∧
  (kK S vb = 30 ∧ kL S vb = 4 ∧ kK S (vb + 1) = 20 ∧ kL S (vb + 1) = 4 ∧ kK S (vb + 2) = 20 ∧ kL S (vb + 2) = 256 ∧ kK S (vb + 3) = 30 ∧ kL S (vb + 3) = 64 ∧ kK S (vb + 4) = 20 ∧ kL S (vb + 4) = 5)
def inV (vb : Nat) : Nat → Prop := fun a => vb ≤ a ∧ a < vb + 5
theorem vwA_eq (h : vwA S va vb) (e : cEq W S S') (h1 : ¬ W va) : vwA S' va vb := by
  have e0 := e.2.2.2.2 va h1
  unfold vwA
  simp only [e.1, e.2.1, e0.2.1]
  exact h
/-- all that a view's methods stand on -/
def cQ (M : mSt) (ra : Nat → Nat) (sl ch : Nat → Int32) (made : Nat → Prop) (mkO : Nat → Option Nat) (S : cSt) (bk la va ua up vb : Nat) (l : List Nat) : Prop :=
  cBk M ra sl ch made mkO S bk ∧ cLed M ra ch S la bk l ∧ cVw M S va bk la ua up l ∧ lOk made l ∧ vwA S va vb ∧ bk + 5 ≤ la ∧ la + 8 ≤ vb ∧ vb + 5 ≤ bk + 128 ∧ ua < vb ∧ va < vb
theorem cQ_eq (h : cQ M ra sl ch made mkO S bk la va ua up vb l) (e : cEq (inV vb) S S') : cQ M ra sl ch made mkO S' bk la va ua up vb l := by
  obtain ⟨h1, h2, h3, h4, h5, h6, h7, h8, h9, h10⟩ := h
  refine ⟨cBk_eq h1 e (fun a q => ?_), cLed_eq h2 e (fun a q => ?_), cVw_eq h3 e (fun q => ?_) (fun q => ?_), h4, vwA_eq h5 e (fun q => ?_), h6, h7, h8, h9, h10⟩ <;> (have q1 := q.1; have q2 := q.2; omega)
theorem cQ_sI (h : cQ M ra sl ch made mkO S bk la va ua up vb l) {p : Nat} (f : Nat → Int32) (hp : vb ≤ p ∧ p < vb + 5) : cQ M ra sl ch made mkO (sI S p f) bk la va ua up vb l := cQ_eq h (cEq_sI f hp)
theorem cQ_sO (h : cQ M ra sl ch made mkO S bk la va ua up vb l) {p : Nat} (f : Nat → Option Nat) (hp : vb ≤ p ∧ p < vb + 5) : cQ M ra sl ch made mkO (sO S p f) bk la va ua up vb l := cQ_eq h (cEq_sO f hp)
end V
/-- an array filled with one number -/
theorem k_fill {S : cSt} {p N : Nat} (hk : kK S p = 20) (hl : kL S p = N) (hN : N ≤ 1001) (x : Int32) : ∃ f, fk_107_fill_53178 S p x = some (sI S p f) ∧ ∀ i, i < N → f i = x := by
  unfold fk_107_fill_53178
  rw [ckk_y hk, hl, lt_d]
  obtain ⟨b, h1, f, h2, h3⟩ := loopI (σ := Nat → Int32) (β := cSt) (N := N) (F := fun n f i => fk_107_fill_53178_5 n (sI S p f) p x (Int32.ofNat i) (Int32.ofNat N)) (Q := fun b => ∃ f, b = sI S p f ∧ ∀ i, i < N → f i = x) (fun i f => ∀ j, j < i → f j = x)
    (fun n f h => ⟨sI S p f, by
      show fk_107_fill_53178_5 (n + 1) (sI S p f) p x (Int32.ofNat N) (Int32.ofNat N) = _
      rw [fk_107_fill_53178_5, if_pos ((jI_le (by omega) (by omega)).mpr (Nat.le_refl _))], f, rfl, h⟩)
    (fun n f i hi h => Or.inl ⟨upd f i x, fun j hj => by
      by_cases e : j = i
      · rw [e, upd_s]
      · rw [upd_o _ _ e]; exact h j (by omega), by
      show fk_107_fill_53178_5 (n + 1) (sI S p f) p x (Int32.ofNat i) (Int32.ofNat N) = _
      have hk' : kK (sI S p f) p = 20 := hk
      have hl' : kL (sI S p f) p = N := hl
      rw [fk_107_fill_53178_5, if_neg (fun q => absurd ((jI_le (by omega) (by omega)).mp q) (by omega)), ckk_y hk', hl', ck_n hi (by omega), lt_d, jI_cl (by omega), wI_sI, lt_d, show (1 : Int32) = Int32.ofNat 1 from rfl, jI_add]⟩)
    N 0 mFU (kI S p) (by omega) (by unfold mFU; omega) (fun j hj => absurd hj (by omega))
  refine ⟨f, ?_, h3⟩
  rw [← h2, ← h1]
  show _ = fk_107_fill_53178_5 mFU (sI S p (kI S p)) p x (Int32.ofNat 0) (Int32.ofNat N)
  rw [sI_id]; rfl
/-- four numbers raised to those of a vector -/
def mx (x y : Int32) : Int32 := if x < y then y else x
theorem le_mx (x a b : Int32) : x ≤ mx a b ↔ x ≤ a ∨ x ≤ b := by
  unfold mx
  split
  · rename_i h
    exact ⟨Or.inr, fun q => q.elim (fun q => Int32.le_trans q (Int32.le_of_lt h)) id⟩
  · rename_i h
    exact ⟨Or.inl, fun q => q.elim id (fun q => Int32.le_trans q (Int32.not_lt.mp h))⟩
theorem k_raise {S : cSt} {p q N st : Nat} (hk : kK S p = 20) (hl : kL S p = N) (hq : kK S q = 20) (hl2 : kL S q = 4) (hpq : q ≠ p) (hN : N ≤ 1001) (hst : st + 4 ≤ N) (f : Nat → Int32) : ∃ f', fk_10_raise (sI S p f) p (Int32.ofNat st) q = some (sI S p f') ∧ (∀ i, i < 4 → f' (st + i) = mx (f (st + i)) (kI S q i)) ∧ ∀ i, i < st ∨ st + 4 ≤ i → f' i = f i := by
  unfold fk_10_raise
  obtain ⟨b, h1, f', h2, h3, h4⟩ := loopI (σ := Nat → Int32) (β := cSt) (N := 4) (F := fun n f i => fk_10_raise_2 n (sI S p f) p (Int32.ofNat st) q (Int32.ofNat i)) (Q := fun b => ∃ f', b = sI S p f' ∧ (∀ i, i < 4 → f' (st + i) = mx (f (st + i)) (kI S q i)) ∧ ∀ i, i < st ∨ st + 4 ≤ i → f' i = f i)
    (fun i g => (∀ j, j < i → g (st + j) = mx (f (st + j)) (kI S q j)) ∧ ∀ j, (j < st ∨ st + i ≤ j) → g j = f j)
    (fun n g h => ⟨sI S p g, by
      show fk_10_raise_2 (n + 1) (sI S p g) p (Int32.ofNat st) q (Int32.ofNat 4) = _
      rw [fk_10_raise_2]
      exact if_pos (by decide), g, rfl, h.1, h.2⟩)
    (fun n g i hi h => Or.inl ⟨upd g (st + i) (mx (g (st + i)) (kI S q i)), ⟨fun j hj => by
      by_cases e : j = i
      · subst e; rw [upd_s, h.2 _ (by omega)]
      · rw [upd_o _ _ (by omega)]; exact h.1 j (by omega), fun j hj => by rw [upd_o _ _ (by omega)]; exact h.2 j (by omega)⟩, by
      show fk_10_raise_2 (n + 1) (sI S p g) p (Int32.ofNat st) q (Int32.ofNat i) = _
      have hk' : kK (sI S p g) p = 20 := hk
      have hl' : kL (sI S p g) p = N := hl
      have hq' : kK (sI S p g) q = 20 := hq
      have hl2' : kL (sI S p g) q = 4 := hl2
      rw [fk_10_raise_2]
      refine (if_neg (jK 4 4 (b := i) rfl (by omega) (by decide))).trans ?_
      rw [ckk_y hk', hl', jI_add, ck_n (by omega) (by omega), ckk_y hq', hl2', ck_n hi (by omega), ckk_y hk', ck_n (by omega) (by omega), lt_d, jI_cl (by omega), jI_cl (by omega), wI_sI, kI_sI, kI_sIo _ _ hpq, lt_d, show (1 : Int32) = Int32.ofNat 1 from rfl, jI_add]
      rfl⟩)
    4 0 mFU f (by omega) (by decide) ⟨fun j hj => absurd hj (by omega), fun j _ => rfl⟩
  exact ⟨f', by rw [← h2, ← h1]; rfl, h3, h4⟩

-- part 27: several, keys
section V
variable {M : mSt} {ra : Nat → Nat} {sl ch : Nat → Int32} {made : Nat → Prop} {mkO : Nat → Option Nat} {S S' : cSt} {bk la va ua up vb : Nat} {l : List Nat} {W : Nat → Prop}
theorem chL_row (hQ : cQ M ra sl ch made mkO S bk la va ua up vb l) {c i : Nat} (hi : i < (chL M ch l c).length) : (chL M ch l c)[i] < 1000 ∧ made (chL M ch l c)[i] ∧ cRow M sl ch S (chL M ch l c)[i] (ra (chL M ch l c)[i]) := by
  obtain ⟨q1, q2⟩ := hQ.2.2.2.1.2.2 _ (chL_mem.mp (List.getElem_mem hi)).1
  exact ⟨q1, q2, (hQ.1.2.2.1 _ q1 q2).2⟩
theorem chL_fu (hQ : cQ M ra sl ch made mkO S bk la va ua up vb l) (c : Nat) : (chL M ch l c).length < mFU := Nat.lt_of_le_of_lt (Nat.le_trans (chL_len c) hQ.2.2.2.1.2.1) (by decide)
theorem take_rev {L : List Nat} {i : Nat} (h : i < L.length) : (L.take (i + 1)).reverse = L[i] :: (L.take i).reverse := by
  rw [List.take_succ, List.getElem?_eq_getElem h, Option.toList_some, List.reverse_append]; rfl
theorem take_app {L : List Nat} {i : Nat} (h : i < L.length) : L.take (i + 1) = L.take i ++ [L[i]] := by
  rw [List.take_succ, List.getElem?_eq_getElem h, Option.toList_some]
/-- what the good rows of a chain knew -/
theorem k_gatherKnown {c : Nat} (hc : c < 385) (hQ : cQ M ra sl ch made mkO S bk la va ua up vb l) : ∃ f, fk_10_gatherKnown S va (Int32.ofNat c) = some (sI S (vb + 1) f) ∧ ∀ q, q < 4 → ∀ x : Int32, x ≤ f q ↔ x ≤ 0 ∨ ∃ t ∈ chL M ch l c, gv M l up t = true ∧ x ≤ M.2 16 (4 * t + q) := by
  obtain ⟨⟨a0, a3, a4, a5, a6⟩, w0, w0', w1, w1', -⟩ := hQ.2.2.2.2.1
  unfold fk_10_gatherKnown
  obtain ⟨f0, e0, h0⟩ := k_fill w1 w1' (by decide) 0
  rw [ckk_y hQ.2.2.1.1.1, a3, bd_s, e0, bd_s]
  have h2 := cQ_sI hQ (p := vb + 1) f0 (by omega)
  rw [ckk_y h2.2.2.1.1.1, h2.2.2.1.1.2.2.2.1, bd_s, k_at hc h2.2.1]
  obtain ⟨b, h3, f, h4, h5⟩ := walkDI (σ := Nat → Int32) (β := cSt) (ra := ra) (L := chL M ch l c) (F := fun n f o => fk_10_gatherKnown_18 n (sI S (vb + 1) f) va o) (Q := fun b => ∃ f, b = sI S (vb + 1) f ∧ ∀ q, q < 4 → ∀ x : Int32, x ≤ f q ↔ x ≤ 0 ∨ ∃ t ∈ chL M ch l c, gv M l up t = true ∧ x ≤ M.2 16 (4 * t + q))
    (fun i f => ∀ q, q < 4 → ∀ x : Int32, x ≤ f q ↔ x ≤ 0 ∨ ∃ t ∈ (chL M ch l c).drop i, gv M l up t = true ∧ x ≤ M.2 16 (4 * t + q))
    (fun n f h => ⟨sI S (vb + 1) f, by rw [fk_10_gatherKnown_18]; rfl, f, rfl, h⟩)
    (fun n f i hi h => Or.inl (by
      have h6 := cQ_sI hQ (p := vb + 1) f (by omega)
      obtain ⟨q1, q2, r9, r1, r2, r3, r4, vv, r5, r6, r7, r8, r10⟩ := chL_row hQ hi
      have hv := hQ.1.1.2.2.2.2.2 _ q2
      have hsep := hQ.2.2.2.2.2
      have go : ∀ g, fk_10_gatherKnown_42 (fk_10_gatherKnown_18 n) (sI S (vb + 1) g) va (some (ra (chL M ch l c)[i])) = fk_10_gatherKnown_18 n (sI S (vb + 1) g) va (pvL ra (chL M ch l c) i) := fun g => by
        have h7 := cQ_sI hQ (p := vb + 1) g (by omega)
        unfold fk_10_gatherKnown_42
        rw [ckk_y h7.2.2.1.1.1, h7.2.2.1.1.2.2.2.1, bd_s]
        exact k_dn hc h7.1 h7.2.1 h7.2.2.2.1 hi (fun o => fk_10_gatherKnown_18 n (sI S (vb + 1) g) va o)
      show ∃ st', _ ∧ fk_10_gatherKnown_18 (n + 1) (sI S (vb + 1) f) va (some (ra (chL M ch l c)[i])) = _
      rw [fk_10_gatherKnown_18]
      have hd := List.drop_eq_getElem_cons hi
      cases hg : gv M l up (chL M ch l c)[i]
      · refine ⟨f, fun q hq x => ?_, ?_⟩
        · rw [h q hq x, hd]; simp only [List.mem_cons, or_and_right, exists_or, exists_eq_left, hg, Bool.false_eq_true, false_and, false_or]
        · show ckk (sI S (vb + 1) f) va 11 _ = _
          rw [ckk_y h6.2.2.1.1.1, k_isGood h6.1 h6.2.1 h6.2.2.1 h6.2.2.2.1 q1 q2, bd_s, hg, if_pos bFn, go]
      · obtain ⟨f', e1, e2, e3⟩ := k_raise (S := S) (p := vb + 1) (q := vv) (N := 4) (st := 0) w1 w1' r7 r8 (by omega) (by omega) (by omega) f
        refine ⟨f', fun q hq x => ?_, ?_⟩
        · have e4 := e2 q hq
          rw [Nat.zero_add] at e4
          rw [e4, le_mx, h q hq x, hd, r10 q hq]
          simp only [List.mem_cons, or_and_right, exists_or, exists_eq_left, hg, true_and]
          constructor
          · rintro ((h | h) | h)
            · exact Or.inl h
            · exact Or.inr (Or.inr h)
            · exact Or.inr (Or.inl h)
          · rintro (h | h | h)
            · exact Or.inl (Or.inl h)
            · exact Or.inr h
            · exact Or.inl (Or.inr h)
        · show ckk (sI S (vb + 1) f) va 11 _ = _
          have r9' : kK (sI S (vb + 1) f) (ra (chL M ch l c)[i]) = 9 := r9
          have r6' : kR (sI S (vb + 1) f) (ra (chL M ch l c)[i]) 10 = some vv := r6
          rw [ckk_y h6.2.2.1.1.1, k_isGood h6.1 h6.2.1 h6.2.2.1 h6.2.2.2.1 q1 q2, bd_s, hg, if_neg bTn, ckk_y h6.2.2.1.1.1, h6.2.2.2.2.1.1.2.1, bd_s, ckk_y r9', r6', bd_s]
          have e1' : fk_10_raise (sI S (vb + 1) f) (vb + 1) 0 vv = some (sI S (vb + 1) f') := e1
          rw [e1', bd_s, go]))
    (chL M ch l c).length mFU f0 (Nat.le_refl _) (chL_fu hQ c) (fun q hq x => by rw [h0 q hq, List.drop_length]; simp)
  exact ⟨f, by rw [← h4]; exact h3, h5⟩
/-- the puts of which no good one knew -/
def svP (M : mSt) (ch : Nat → Int32) (l : List Nat) (up c r : Nat) : Bool := gv M l up r && decide (∀ t ∈ chL M ch l c, gv M l up t = true → ¬ Int32.ofNat (rM r) ≤ M.2 16 (4 * t + rN r))
def svL (M : mSt) (ch : Nat → Int32) (l : List Nat) (up c : Nat) : List Nat := (chL M ch l c).filter (svP M ch l up c)
theorem rM_pos (r : Nat) : ¬ Int32.ofNat (rM r) ≤ 0 := jI_p (by have := rM_le r; omega) (rM_le r).1
theorem k_findSeveral {c : Nat} (hc : c < 385) (hQ : cQ M ra sl ch made mkO S bk la va ua up vb l) (h4 : (svL M ch l up c).length ≤ 4) : ∃ f g, fk_10_findSeveral S va (Int32.ofNat c) = some (Int32.ofNat (svL M ch l up c).length, sO (sI S (vb + 1) f) vb g) ∧ ∀ i (h : i < (svL M ch l up c).length), g i = some (ra (svL M ch l up c)[i]) := by
  obtain ⟨f, e0, hf⟩ := k_gatherKnown hc hQ
  have h1 := cQ_sI hQ (p := vb + 1) f (by omega)
  obtain ⟨⟨a0, a3, a4, a5, a6⟩, w0, w0', w1, w1', -⟩ := h1.2.2.2.2.1
  unfold fk_10_findSeveral
  rw [ckk_y hQ.2.2.1.1.1, e0, bd_s, ckk_y h1.2.2.1.1.1, h1.2.2.1.1.2.2.2.1, bd_s, k_at0 hc h1.2.1]
  have hfl : ∀ i, i ≤ (chL M ch l c).length → (((chL M ch l c).take i).filter (svP M ch l up c)).length ≤ (svL M ch l up c).length := fun i _ => ((List.take_sublist i _).filter _).length_le
  obtain ⟨b, h3, g, h5, h6⟩ := walkAI (σ := Nat × (Nat → Option Nat)) (β := Int32 × cSt) (ra := ra) (L := chL M ch l c) (F := fun n st o => fk_10_findSeveral_17 n (sO (sI S (vb + 1) f) vb st.2) va (Int32.ofNat st.1) o) (Q := fun b => ∃ g, b = (Int32.ofNat (svL M ch l up c).length, sO (sI S (vb + 1) f) vb g) ∧ ∀ i (h : i < (svL M ch l up c).length), g i = some (ra (svL M ch l up c)[i]))
    (fun i st => st.1 = (((chL M ch l c).take i).filter (svP M ch l up c)).length ∧ ∀ k (h : k < (((chL M ch l c).take i).filter (svP M ch l up c)).length), st.2 k = some (ra (((chL M ch l c).take i).filter (svP M ch l up c))[k]))
    (fun n st h => by
      rw [List.take_length] at h
      exact ⟨_, by show fk_10_findSeveral_17 (n + 1) _ va _ none = _; rw [fk_10_findSeveral_17]; rfl, st.2, by rw [h.1]; rfl, h.2⟩)
    (fun n st i hi h => Or.inl (by
      have h6 := cQ_sO h1 (p := vb) st.2 (by omega)
      obtain ⟨q1, q2, r9, r1, ⟨r2, r2', -⟩, -⟩ := chL_row hQ hi
      have hsep := hQ.2.2.2.2.2
      have go : ∀ g (x : Int32), fk_10_findSeveral_60 (fk_10_findSeveral_17 n) (sO (sI S (vb + 1) f) vb g) va x (some (ra (chL M ch l c)[i])) = fk_10_findSeveral_17 n (sO (sI S (vb + 1) f) vb g) va x (nxL ra (chL M ch l c) (i + 1)) := fun g x => by
        have h7 := cQ_sO h1 (p := vb) g (by omega)
        unfold fk_10_findSeveral_60
        rw [ckk_y h7.2.2.1.1.1, h7.2.2.1.1.2.2.2.1, bd_s]
        exact k_up hc h7.1 h7.2.1 h7.2.2.2.1 hi (fun o => fk_10_findSeveral_17 n (sO (sI S (vb + 1) f) vb g) va x o)
      show ∃ st', _ ∧ fk_10_findSeveral_17 (n + 1) (sO (sI S (vb + 1) f) vb st.2) va (Int32.ofNat st.1) (some (ra (chL M ch l c)[i])) = _
      rw [fk_10_findSeveral_17]
      have hl1 := hfl i (by omega)
      have hl2 := hfl (i + 1) (by omega)
      rw [take_app hi, List.filter_append] at hl2 ⊢
      have hkn : ∀ x : Int32, x ≤ f (rN (chL M ch l c)[i]) ↔ _ := hf (rN (chL M ch l c)[i]) (rN_lt q1)
      have kn : kI (sO (sI S (vb + 1) f) vb st.2) (vb + 1) = f := by show kI (sI S (vb + 1) f) (vb + 1) = f; rw [kI_sI]
      cases hp : svP M ch l up c (chL M ch l c)[i]
      · refine ⟨st, ?_, ?_⟩
        · simpa [hp] using h
        · show (if (4 : Int32) ≤ Int32.ofNat st.1 then _ else _) = _
          by_cases h8 : (4 : Int32) ≤ Int32.ofNat st.1
          · rw [if_pos h8, go]
          · rw [if_neg h8, ckk_y h6.2.2.1.1.1, k_isGood h6.1 h6.2.1 h6.2.2.1 h6.2.2.2.1 q1 q2, bd_s]
            cases hg : gv M l up (chL M ch l c)[i]
            · rw [if_pos bFn, go]
            · have r9' : kK (sO (sI S (vb + 1) f) vb st.2) (ra (chL M ch l c)[i]) = 9 := r9
              have r2a : kF (sO (sI S (vb + 1) f) vb st.2) (ra (chL M ch l c)[i]) 6 = _ := r2
              have r2b : kF (sO (sI S (vb + 1) f) vb st.2) (ra (chL M ch l c)[i]) 7 = _ := r2'
              have b3 := h6.2.2.2.2.1.1.2.1
              have b4 := h6.2.2.2.2.1.2.2.2.1
              have b5 := h6.2.2.2.2.1.2.2.2.2.1
              have := rN_lt q1
              rw [if_neg bTn, ckk_y r9', ckk_y h6.2.2.1.1.1, b3, bd_s, ckk_y r9', ckk_y b4, b5, r2a, r2b, ck_n (rN_lt q1) (by omega), jI_cl (by omega), kn, if_pos, go]
              rw [hkn]
              unfold svP at hp
              rw [hg, Bool.true_and, decide_eq_false_iff_not] at hp
              refine Or.inr (Classical.byContradiction fun hn => hp (fun t ht hgt hle => hn ⟨t, ht, hgt, hle⟩))
      · simp only [hp, List.filter_cons_of_pos, List.filter_nil, List.length_append, List.length_singleton] at hl2 ⊢
        have hlt : st.1 < 4 := by rw [h.1]; omega
        have hp' := hp
        unfold svP at hp'
        rw [Bool.and_eq_true, decide_eq_true_iff] at hp'
        refine ⟨(st.1 + 1, upo st.2 st.1 (some (ra (chL M ch l c)[i]))), ⟨by rw [h.1], fun k hk => ?_⟩, ?_⟩
        · by_cases e : k = st.1
          · subst e
            show upo st.2 st.1 _ st.1 = _
            rw [upo_s]
            congr 2
            rw [List.getElem_append_right (by rw [h.1]; exact Nat.le_refl _)]
            simp
          · show upo st.2 st.1 _ k = _
            rw [upo_o _ _ e]
            have hk2 : k < (((chL M ch l c).take i).filter (svP M ch l up c)).length := by have := h.1; omega
            rw [h.2 k hk2, List.getElem_append_left hk2]
        · show (if (4 : Int32) ≤ Int32.ofNat st.1 then _ else _) = _
          have r9' : kK (sO (sI S (vb + 1) f) vb st.2) (ra (chL M ch l c)[i]) = 9 := r9
          have r2a : kF (sO (sI S (vb + 1) f) vb st.2) (ra (chL M ch l c)[i]) 6 = _ := r2
          have r2b : kF (sO (sI S (vb + 1) f) vb st.2) (ra (chL M ch l c)[i]) 7 = _ := r2'
          have b3 := h6.2.2.2.2.1.1.2.1
          have b4 := h6.2.2.2.2.1.2.2.2.1
          have b5 := h6.2.2.2.2.1.2.2.2.2.1
          have b0 := h6.2.2.2.2.1.1.1
          have b1 := h6.2.2.2.2.1.2.1
          have b1' := h6.2.2.2.2.1.2.2.1
          have := rN_lt q1
          rw [if_neg (jK 4 4 (b := st.1) rfl (by omega) (by decide)), ckk_y h6.2.2.1.1.1, k_isGood h6.1 h6.2.1 h6.2.2.1 h6.2.2.2.1 q1 q2, bd_s, hp'.1, if_neg bTn, ckk_y r9', ckk_y h6.2.2.1.1.1, b3, bd_s, ckk_y r9', ckk_y b4, b5, r2a, r2b, ck_n (rN_lt q1) (by omega), jI_cl (by omega), kn, if_neg, ckk_y h6.2.2.1.1.1, b0, bd_s, ckk_y b1, b1', ck_n hlt (by omega)]
          · show ckk (sO (sI S (vb + 1) f) vb st.2) (ra (chL M ch l c)[i]) 9 _ = _
            rw [ckk_y r9', lt_d, jI_cl (by omega), wO_sO, lt_d, show (1 : Int32) = Int32.ofNat 1 from rfl, jI_add, go]
          · rw [hkn]
            rintro (h9 | ⟨t, ht, hgt, hle⟩)
            · exact rM_pos _ h9
            · exact hp'.2 t ht hgt hle))
    (chL M ch l c).length 0 mFU (0, kO (sI S (vb + 1) f) vb) (by omega) (chL_fu hQ c) ⟨by simp, fun k hk => absurd hk (by simp)⟩
  refine ⟨f, g, ?_, h6⟩
  rw [← h5, ← h3]
  show _ = fk_10_findSeveral_17 mFU (sO (sI S (vb + 1) f) vb (kO (sI S (vb + 1) f) vb)) va (Int32.ofNat 0) (nxL ra (chL M ch l c) 0)
  rw [sO_id]; rfl
end V

-- part 28: keys of sets and maps
section V
variable {M : mSt} {ra : Nat → Nat} {sl ch : Nat → Int32} {made : Nat → Prop} {mkO : Nat → Option Nat} {S S' : cSt} {bk la va ua up vb : Nat} {l : List Nat} {W : Nat → Prop}
theorem k_forgetKeys (hQ : cQ M ra sl ch made mkO S bk la va ua up vb l) : ∃ g, fk_10_forgetKeys S va = some (sO S (vb + 3) g) ∧ ∀ x, x < 64 → g x = none := by
  unfold fk_10_forgetKeys
  obtain ⟨b, h1, g, h2, h3⟩ := loopI (σ := Nat → Option Nat) (β := cSt) (N := 64) (F := fun n g i => fk_10_forgetKeys_2 n (sO S (vb + 3) g) va (Int32.ofNat i)) (Q := fun b => ∃ g, b = sO S (vb + 3) g ∧ ∀ i, i < 64 → g i = none) (fun i g => ∀ j, j < i → g j = none)
    (fun n g h => ⟨sO S (vb + 3) g, by
      show fk_10_forgetKeys_2 (n + 1) (sO S (vb + 3) g) va (Int32.ofNat 64) = _
      rw [fk_10_forgetKeys_2]
      exact if_pos (by decide), g, rfl, h⟩)
    (fun n g i hi h => Or.inl ⟨upo g i none, fun j hj => by
      by_cases e : j = i
      · rw [e, upo_s]
      · rw [upo_o _ _ e]; exact h j (by omega), by
      show fk_10_forgetKeys_2 (n + 1) (sO S (vb + 3) g) va (Int32.ofNat i) = _
      have h6 := cQ_sO hQ (p := vb + 3) g (by omega)
      obtain ⟨⟨a0, a3, a4, a5, a6⟩, w0, w0', w1, w1', w2, w2', w3, w3', -⟩ := h6.2.2.2.2.1
      rw [fk_10_forgetKeys_2]
      refine (if_neg (jK 64 64 (b := i) rfl (by omega) (by decide))).trans ?_
      rw [ckk_y h6.2.2.1.1.1, a5, bd_s, ckk_y w3, w3', ck_n hi (by omega)]
      have hq : ∀ {K : Option cSt}, ckq (sO S (vb + 3) g) none 9 K = K := fun {K} => rfl
      rw [hq, lt_d, jI_cl (by omega), wO_sO, lt_d, show (1 : Int32) = Int32.ofNat 1 from rfl, jI_add]⟩)
    64 0 mFU (kO S (vb + 3)) (by omega) (by decide) (fun j hj => absurd hj (by omega))
  refine ⟨g, ?_, h3⟩
  rw [← h2, ← h1]
  show _ = fk_10_forgetKeys_2 mFU (sO S (vb + 3) (kO S (vb + 3))) va (Int32.ofNat 0)
  rw [sO_id]; rfl
/-- the enters by which x is in a set: the last of them -/
def enP (M : mSt) (ch : Nat → Int32) (l : List Nat) (up c r : Nat) : Bool := decide (M.2 9 r = 7) && (gv M l up r && decide (∀ t ∈ chL M ch l c, M.2 9 t = 8 → gv M l up t = true → M.2 12 t = M.2 12 r → ¬ Int32.ofNat (rM r) ≤ M.2 16 (4 * t + rN r)))
def enR (M : mSt) (ch : Nat → Int32) (l : List Nat) (up c x : Nat) : Option Nat := (chL M ch l c).reverse.find? (fun r => decide (M.2 12 r = Int32.ofNat x) && enP M ch l up c r)
theorem k_findMembers {c : Nat} (hc : c < 385) (hQ : cQ M ra sl ch made mkO S bk la va ua up vb l) (hv : ∀ r ∈ chL M ch l c, ∃ x, x < 64 ∧ M.2 12 r = Int32.ofNat x) : ∃ f g, fk_10_findMembers S va (Int32.ofNat c) = some (sO (sI S (vb + 2) f) (vb + 3) g) ∧ ∀ x, x < 64 → g x = (enR M ch l up c x).map ra := by
  obtain ⟨g0, e0, hg0⟩ := k_forgetKeys hQ
  unfold fk_10_findMembers
  have hQ1 := cQ_sO hQ (p := vb + 3) g0 (by omega)
  obtain ⟨⟨a0, a3, a4, a5, a6⟩, w0, w0', w1, w1', w2, w2', w3, w3', -⟩ := hQ1.2.2.2.2.1
  obtain ⟨f0, e1, hf0⟩ := k_fill w2 w2' (by decide) 0
  rw [ckk_y hQ.2.2.1.1.1, e0, bd_s, ckk_y hQ1.2.2.1.1.1, a4, bd_s, e1, bd_s]
  have hQ2 := cQ_sI hQ1 (p := vb + 2) f0 (by omega)
  rw [ckk_y hQ2.2.2.1.1.1, hQ2.2.2.1.1.2.2.2.1, bd_s, k_at hc hQ2.2.1]
  have hsep := hQ.2.2.2.2.2
  have key := walkDI (σ := Nat → Int32) (β := cSt) (ra := ra) (L := chL M ch l c) (F := fun n f o => fk_10_findMembers_22 n (sI (sO S (vb + 3) g0) (vb + 2) f) va (Int32.ofNat c) o) (Q := fun b => ∃ f g, b = sO (sI S (vb + 2) f) (vb + 3) g ∧ ∀ x, x < 64 → g x = (enR M ch l up c x).map ra)
    (fun i f => ∀ x, x < 64 → ∀ q, q < 4 → ∀ y : Int32, y ≤ f (4 * x + q) ↔ y ≤ 0 ∨ ∃ t ∈ (chL M ch l c).drop i, M.2 9 t = 8 ∧ gv M l up t = true ∧ M.2 12 t = Int32.ofNat x ∧ y ≤ M.2 16 (4 * t + q))
    (fun n f h => by
      have h6 := cQ_sI hQ1 (p := vb + 2) f (by omega)
      show ∃ b, fk_10_findMembers_22 (n + 1) (sI (sO S (vb + 3) g0) (vb + 2) f) va (Int32.ofNat c) none = some b ∧ _
      rw [fk_10_findMembers_22]
      show ∃ b, ckk (sI (sO S (vb + 3) g0) (vb + 2) f) va 11 _ = some b ∧ _
      rw [ckk_y h6.2.2.1.1.1, h6.2.2.1.1.2.2.2.1, bd_s, k_at0 hc h6.2.1]
      rw [List.drop_zero] at h
      have key2 := walkAI (σ := Nat → Option Nat) (β := cSt) (ra := ra) (L := chL M ch l c) (F := fun n g o => fk_10_findMembers_86 n (sO (sI S (vb + 2) f) (vb + 3) g) va o) (Q := fun b => ∃ f g, b = sO (sI S (vb + 2) f) (vb + 3) g ∧ ∀ x, x < 64 → g x = (enR M ch l up c x).map ra)
        (fun i g => ∀ x, x < 64 → g x = (((chL M ch l c).take i).reverse.find? (fun r => decide (M.2 12 r = Int32.ofNat x) && enP M ch l up c r)).map ra)
        (fun n g h => ⟨_, by rw [fk_10_findMembers_86]; rfl, f, g, rfl, by rw [List.take_length] at h; exact h⟩)
        (fun n g i hi hI => Or.inl (by
          have h7 := cQ_sO (cQ_sI hQ (p := vb + 2) f (by omega)) (p := vb + 3) g (by omega)
          obtain ⟨q1, q2, r9, ⟨r0, -, -, r4, -⟩, ⟨r2, r2', -⟩, -⟩ := chL_row hQ hi
          have go : ∀ g, fk_10_findMembers_140 (fk_10_findMembers_86 n) (sO (sI S (vb + 2) f) (vb + 3) g) va (some (ra (chL M ch l c)[i])) = fk_10_findMembers_86 n (sO (sI S (vb + 2) f) (vb + 3) g) va (nxL ra (chL M ch l c) (i + 1)) := fun g => by
            have h7 := cQ_sO (cQ_sI hQ (p := vb + 2) f (by omega)) (p := vb + 3) g (by omega)
            unfold fk_10_findMembers_140
            rw [ckk_y h7.2.2.1.1.1, h7.2.2.1.1.2.2.2.1, bd_s]
            exact k_up hc h7.1 h7.2.1 h7.2.2.2.1 hi (fun o => fk_10_findMembers_86 n (sO (sI S (vb + 2) f) (vb + 3) g) va o)
          show ∃ st', _ ∧ fk_10_findMembers_86 (n + 1) (sO (sI S (vb + 2) f) (vb + 3) g) va (some (ra (chL M ch l c)[i])) = _
          rw [fk_10_findMembers_86]
          obtain ⟨x0, hx0, ex0⟩ := hv _ (List.getElem_mem hi)
          have hn4 := rN_lt q1
          have hkn : ∀ y : Int32, y ≤ f (4 * x0 + rN (chL M ch l c)[i]) ↔ _ := h x0 hx0 (rN (chL M ch l c)[i]) hn4
          have kn : kI (sO (sI S (vb + 2) f) (vb + 3) g) (vb + 2) = f := by show kI (sI S (vb + 2) f) (vb + 2) = f; rw [kI_sI]
          obtain ⟨⟨y0, y3, y4, y5, y6⟩, z0, z0', z1, z1', z2, z2', z3, z3', -⟩ := h7.2.2.2.2.1
          have r9' : kK (sO (sI S (vb + 2) f) (vb + 3) g) (ra (chL M ch l c)[i]) = 9 := r9
          have r0' : kF (sO (sI S (vb + 2) f) (vb + 3) g) (ra (chL M ch l c)[i]) 0 = _ := r0
          have r4' : kF (sO (sI S (vb + 2) f) (vb + 3) g) (ra (chL M ch l c)[i]) 4 = _ := r4
          have r2a : kF (sO (sI S (vb + 2) f) (vb + 3) g) (ra (chL M ch l c)[i]) 6 = _ := r2
          have r2b : kF (sO (sI S (vb + 2) f) (vb + 3) g) (ra (chL M ch l c)[i]) 7 = _ := r2'
          have skip : enP M ch l up c (chL M ch l c)[i] = false → ∀ x, x < 64 → g x = (((chL M ch l c).take (i + 1)).reverse.find? (fun r => decide (M.2 12 r = Int32.ofNat x) && enP M ch l up c r)).map ra := fun hp x hx => by
            rw [take_rev hi, List.find?_cons, hp, Bool.and_false]; exact hI x hx
          show ∃ st', _ ∧ ckk (sO (sI S (vb + 2) f) (vb + 3) g) (ra (chL M ch l c)[i]) 9 _ = _
          rw [ckk_y r9', r0']
          by_cases h70 : M.2 9 (chL M ch l c)[i] = 7
          · rw [if_pos h70, ckk_y h7.2.2.1.1.1, k_isGood h7.1 h7.2.1 h7.2.2.1 h7.2.2.2.1 q1 q2, bd_s]
            cases hg : gv M l up (chL M ch l c)[i]
            · refine ⟨g, skip (by unfold enP; rw [hg]; simp), ?_⟩
              rw [if_pos bFn, go]
            · rw [if_neg bTn, ckk_y r9', ckk_y h7.2.2.1.1.1, y4, bd_s, ckk_y r9', ckk_y r9', ckk_y z2, z2', r4', r2a, r2b, ex0, show (4 : Int32) = Int32.ofNat 4 from rfl, jI_mul, jI_add, ck_n (by omega) (by omega), jI_cl (by omega), kn]
              have hiff : Int32.ofNat (rM (chL M ch l c)[i]) ≤ f (4 * x0 + rN (chL M ch l c)[i]) ↔ enP M ch l up c (chL M ch l c)[i] = false := by
                rw [hkn]
                unfold enP
                rw [hg, decide_eq_true h70, Bool.true_and, Bool.true_and, decide_eq_false_iff_not, ex0]
                constructor
                · rintro (h9 | ⟨t, ht, h8, hgt, hvt, hle⟩) hh
                  · exact rM_pos _ h9
                  · exact hh t ht h8 hgt hvt hle
                · intro hh
                  refine Or.inr (Classical.byContradiction fun hn => hh (fun t ht h8 hgt hvt hle => hn ⟨t, ht, h8, hgt, hvt, hle⟩))
              cases hp : enP M ch l up c (chL M ch l c)[i]
              · refine ⟨g, skip hp, ?_⟩
                rw [if_pos (hiff.mpr hp), go]
              · refine ⟨upo g x0 (some (ra (chL M ch l c)[i])), fun x hx => ?_, ?_⟩
                · rw [take_rev hi, List.find?_cons, hp, Bool.and_true]
                  by_cases ex : x = x0
                  · subst ex
                    rw [upo_s, decide_eq_true ex0]; rfl
                  · rw [upo_o _ _ ex, decide_eq_false (fun q => ex ((jI_inj (by omega) (by omega)).mp (ex0.symm.trans q)).symm)]
                    exact hI x hx
                · rw [if_neg (fun q => by rw [hiff.mp q] at hp; cases hp), ckk_y h7.2.2.1.1.1, y5, bd_s, ckk_y r9', ckk_y z3, z3', ck_n hx0 (by omega)]
                  show ckk (sO (sI S (vb + 2) f) (vb + 3) g) (ra (chL M ch l c)[i]) 9 _ = _
                  rw [ckk_y r9', lt_d, jI_cl (by omega), wO_sO, go]
          · rw [if_neg h70]
            exact ⟨g, skip (by unfold enP; rw [decide_eq_false h70]; rfl), go g⟩))
        (chL M ch l c).length 0 mFU g0 (by omega) (chL_fu hQ c) (fun x hx => by rw [hg0 x hx]; simp)
      obtain ⟨b, hb, hb2⟩ := key2
      exact ⟨b, hb, hb2⟩)
    (fun n f i hi h => Or.inl (by
      have h6 := cQ_sI hQ1 (p := vb + 2) f (by omega)
      obtain ⟨q1, q2, r9, ⟨r0, -, -, r4, -⟩, r2, r3, r3', vv, r5, r6, r7, r8, r10⟩ := chL_row hQ hi
      have hvv := hQ.1.1.2.2.2.2.2 _ q2
      have go : ∀ g, fk_10_findMembers_60 (fk_10_findMembers_22 n) (sI (sO S (vb + 3) g0) (vb + 2) g) va (Int32.ofNat c) (some (ra (chL M ch l c)[i])) = fk_10_findMembers_22 n (sI (sO S (vb + 3) g0) (vb + 2) g) va (Int32.ofNat c) (pvL ra (chL M ch l c) i) := fun g => by
        have h7 := cQ_sI hQ1 (p := vb + 2) g (by omega)
        unfold fk_10_findMembers_60
        rw [ckk_y h7.2.2.1.1.1, h7.2.2.1.1.2.2.2.1, bd_s]
        exact k_dn hc h7.1 h7.2.1 h7.2.2.2.1 hi (fun o => fk_10_findMembers_22 n (sI (sO S (vb + 3) g0) (vb + 2) g) va (Int32.ofNat c) o)
      show ∃ st', _ ∧ fk_10_findMembers_22 (n + 1) (sI (sO S (vb + 3) g0) (vb + 2) f) va (Int32.ofNat c) (some (ra (chL M ch l c)[i])) = _
      rw [fk_10_findMembers_22]
      obtain ⟨x0, hx0, ex0⟩ := hv _ (List.getElem_mem hi)
      have r9' : kK (sI (sO S (vb + 3) g0) (vb + 2) f) (ra (chL M ch l c)[i]) = 9 := r9
      have r0' : kF (sI (sO S (vb + 3) g0) (vb + 2) f) (ra (chL M ch l c)[i]) 0 = _ := r0
      have r4' : kF (sI (sO S (vb + 3) g0) (vb + 2) f) (ra (chL M ch l c)[i]) 4 = _ := r4
      have r6' : kR (sI (sO S (vb + 3) g0) (vb + 2) f) (ra (chL M ch l c)[i]) 10 = some vv := r6
      have hd := List.drop_eq_getElem_cons hi
      show ∃ st', _ ∧ ckk (sI (sO S (vb + 3) g0) (vb + 2) f) (ra (chL M ch l c)[i]) 9 _ = _
      rw [ckk_y r9', r0']
      by_cases h80 : M.2 9 (chL M ch l c)[i] = 8
      · rw [if_pos h80, ckk_y h6.2.2.1.1.1, k_isGood h6.1 h6.2.1 h6.2.2.1 h6.2.2.2.1 q1 q2, bd_s]
        cases hg : gv M l up (chL M ch l c)[i]
        · refine ⟨f, fun x hx q hq y => ?_, ?_⟩
          · rw [h x hx q hq y, hd]; simp only [List.mem_cons, or_and_right, exists_or, exists_eq_left, hg, Bool.false_eq_true, false_and, and_false, false_or]
          · rw [if_pos bFn, go]
        · obtain ⟨f', e1, e2, e3⟩ := k_raise (S := sO S (vb + 3) g0) (p := vb + 2) (q := vv) (N := 256) (st := 4 * x0) w2 w2' r7 r8 (by omega) (by omega) (by omega) f
          refine ⟨f', fun x hx q hq y => ?_, ?_⟩
          · by_cases ex : x = x0
            · subst ex
              rw [e2 q hq, le_mx, h x hx q hq y, hd, show kI (sO S (vb + 3) g0) vv = kI S vv from rfl, r10 q hq]
              simp only [List.mem_cons, or_and_right, exists_or, exists_eq_left, hg, h80, ex0, true_and]
              constructor
              · rintro ((h | h) | h)
                · exact Or.inl h
                · exact Or.inr (Or.inr h)
                · exact Or.inr (Or.inl h)
              · rintro (h | h | h)
                · exact Or.inl (Or.inl h)
                · exact Or.inr h
                · exact Or.inl (Or.inr h)
            · rw [e3 _ (by omega), h x hx q hq y, hd]
              have hne : ¬ M.2 12 (chL M ch l c)[i] = Int32.ofNat x := fun q => ex ((jI_inj (by omega) (by omega)).mp (ex0.symm.trans q)).symm
              simp only [List.mem_cons, or_and_right, exists_or, exists_eq_left, hne, false_and, and_false, false_or]
          · rw [if_neg bTn, ckk_y h6.2.2.1.1.1, h6.2.2.2.2.1.1.2.2.1, bd_s, ckk_y r9', ckk_y r9', r6', bd_s, r4', ex0, show (4 : Int32) = Int32.ofNat 4 from rfl, jI_mul, e1, bd_s, go]
      · refine ⟨f, fun x hx q hq y => ?_, ?_⟩
        · rw [h x hx q hq y, hd]; simp only [List.mem_cons, or_and_right, exists_or, exists_eq_left, h80, false_and, false_or]
        · rw [if_neg h80, go]))
    (chL M ch l c).length mFU f0 (Nat.le_refl _) (chL_fu hQ c) (fun x hx q hq y => by rw [hf0 _ (by omega), List.drop_length]; simp)
  obtain ⟨b, h3, f, g, h4, h5⟩ := key
  exact ⟨f, g, by rw [← h4]; exact h3, h5⟩
theorem k_enterOf {c : Nat} (hc : c < 385) (hQ : cQ M ra sl ch made mkO S bk la va ua up vb l) (hv : ∀ r ∈ chL M ch l c, ∃ x, x < 64 ∧ M.2 12 r = Int32.ofNat x) (x : Int32) : ∃ S', fk_10_enterOf S va (Int32.ofNat c) x = some (if 0 ≤ x ∧ x < 64 then (enR M ch l up c x.toNatClampNeg).map ra else none, S') ∧ cEq (inV vb) S S' := by
  unfold fk_10_enterOf fk_11_isKey fk_11_isKey_14 fk_11_isKey_15
  by_cases h1 : x < 0
  · rw [if_pos h1, ckz_0, bd_s, if_pos rfl, if_neg (fun q => absurd q.1 (Int32.not_le.mpr h1))]
    exact ⟨S, rfl, cEq_refl _ _⟩
  · rw [if_neg h1]
    by_cases h2 : (64 : Int32) ≤ x
    · rw [if_pos h2, ckz_0, bd_s, if_pos rfl, if_neg (fun q => absurd q.2 (Int32.not_lt.mpr h2))]
      exact ⟨S, rfl, cEq_refl _ _⟩
    · obtain ⟨f, g, e1, e2⟩ := k_findMembers hc hQ hv
      have h7 := cQ_sO (cQ_sI hQ (p := vb + 2) f (by omega)) (p := vb + 3) g (by omega)
      obtain ⟨⟨y0, y3, y4, y5, y6⟩, z0, z0', z1, z1', z2, z2', z3, z3', -⟩ := h7.2.2.2.2.1
      rw [if_neg h2, ckz_1, bd_s, if_neg (by decide), ckk_y hQ.2.2.1.1.1, e1, bd_s, ckk_y h7.2.2.1.1.1, y5, bd_s, ckk_y z3, z3', if_pos ⟨Int32.not_lt.mp h1, Int32.not_le.mp h2⟩]
      have hx : x.toNatClampNeg < 64 := by
        have h3 := Int32.not_le.mp h2
        rw [jI_of h1] at h3
        exact (jI_lt (b := 64) (jI_clt x) (by decide)).mp h3
      rw [← e2 _ hx]
      refine ⟨sO (sI S (vb + 2) f) (vb + 3) g, ?_, cEq_trans (cEq_sI f (show inV vb (vb + 2) by unfold inV; omega)) (cEq_sO g (show inV vb (vb + 3) by unfold inV; omega))⟩
      rw [show ck x 64 (lt (kO (sO (sI S (vb + 2) f) (vb + 3) g) (vb + 3) x.toNatClampNeg) fun o5 => some (o5, sO (sI S (vb + 2) f) (vb + 3) g)) = ck (Int32.ofNat x.toNatClampNeg) 64 (lt (kO (sO (sI S (vb + 2) f) (vb + 3) g) (vb + 3) x.toNatClampNeg) fun o5 => some (o5, sO (sI S (vb + 2) f) (vb + 3) g)) by rw [← jI_of h1], ck_n hx (by omega), lt_d, kO_sO]
end V

-- part 29: binds, keys by place, shares
section V
variable {M : mSt} {ra : Nat → Nat} {sl ch : Nat → Int32} {made : Nat → Prop} {mkO : Nat → Option Nat} {S S' : cSt} {bk la va ua up vb : Nat} {l : List Nat} {W : Nat → Prop}
/-- the row by which a key is bound -/
def bnR (M : mSt) (ch : Nat → Int32) (l : List Nat) (up c x : Nat) : Option Nat := match bdR M ch l up c (Int32.ofNat x) with | none => none | some r => if M.2 9 r = 15 then some r else none
theorem k_findBinds {c : Nat} (hc : c < 385) (hQ : cQ M ra sl ch made mkO S bk la va ua up vb l) (hv : ∀ r ∈ chL M ch l c, ∃ x, x < 64 ∧ M.2 12 r = Int32.ofNat x) : ∃ g, fk_10_findBinds S va (Int32.ofNat c) = some (sO S (vb + 3) g) ∧ ∀ x, x < 64 → g x = (bnR M ch l up c x).map ra := by
  obtain ⟨g0, e0, hg0⟩ := k_forgetKeys hQ
  unfold fk_10_findBinds
  have hQ1 := cQ_sO hQ (p := vb + 3) g0 (by omega)
  rw [ckk_y hQ.2.2.1.1.1, e0, bd_s, ckk_y hQ1.2.2.1.1.1, hQ1.2.2.1.1.2.2.2.1, bd_s, k_at0 hc hQ1.2.1]
  have key := walkAI (σ := Nat → Option Nat) (β := cSt) (ra := ra) (L := chL M ch l c) (F := fun n g o => fk_10_findBinds_14 n (sO S (vb + 3) g) va o) (Q := fun b => ∃ g, b = sO S (vb + 3) g ∧ ∀ x, x < 64 → g x = (bnR M ch l up c x).map ra)
    (fun i g => ∀ x, x < 64 → g x = ((match ((chL M ch l c).take i).reverse.find? (fun r => decide (M.2 12 r = Int32.ofNat x) && gv M l up r) with | none => none | some r => if M.2 9 r = 15 then some r else none) : Option Nat).map ra)
    (fun n g h => ⟨_, by rw [fk_10_findBinds_14]; rfl, g, rfl, by rw [List.take_length] at h; exact h⟩)
    (fun n g i hi hI => Or.inl (by
      have h7 := cQ_sO hQ (p := vb + 3) g (by omega)
      obtain ⟨q1, q2, r9, ⟨r0, -, -, r4, -⟩, ⟨r2, r2', -⟩, -⟩ := chL_row hQ hi
      have go : ∀ g, fk_10_findBinds_49 (fk_10_findBinds_14 n) (sO S (vb + 3) g) va (some (ra (chL M ch l c)[i])) = fk_10_findBinds_14 n (sO S (vb + 3) g) va (nxL ra (chL M ch l c) (i + 1)) := fun g => by
        have h7 := cQ_sO hQ (p := vb + 3) g (by omega)
        unfold fk_10_findBinds_49
        rw [ckk_y h7.2.2.1.1.1, h7.2.2.1.1.2.2.2.1, bd_s]
        exact k_up hc h7.1 h7.2.1 h7.2.2.2.1 hi (fun o => fk_10_findBinds_14 n (sO S (vb + 3) g) va o)
      show ∃ st', _ ∧ fk_10_findBinds_14 (n + 1) (sO S (vb + 3) g) va (some (ra (chL M ch l c)[i])) = _
      rw [fk_10_findBinds_14]
      obtain ⟨x0, hx0, ex0⟩ := hv _ (List.getElem_mem hi)
      obtain ⟨⟨y0, y3, y4, y5, y6⟩, z0, z0', z1, z1', z2, z2', z3, z3', -⟩ := h7.2.2.2.2.1
      have r9' : kK (sO S (vb + 3) g) (ra (chL M ch l c)[i]) = 9 := r9
      have r0' : kF (sO S (vb + 3) g) (ra (chL M ch l c)[i]) 0 = _ := r0
      have r4' : kF (sO S (vb + 3) g) (ra (chL M ch l c)[i]) 4 = _ := r4
      show ∃ st', _ ∧ ckk (sO S (vb + 3) g) va 11 _ = _
      rw [ckk_y h7.2.2.1.1.1, k_isGood h7.1 h7.2.1 h7.2.2.1 h7.2.2.2.1 q1 q2, bd_s]
      cases hg : gv M l up (chL M ch l c)[i]
      · refine ⟨g, fun x hx => ?_, by rw [if_pos bFn, go]⟩
        rw [take_rev hi, List.find?_cons, hg, Bool.and_false]; exact hI x hx
      · rw [if_neg bTn, ckk_y h7.2.2.1.1.1, y5, bd_s, ckk_y r9', ckk_y r9', r0', r4', ex0]
        have wrt : ∀ o : Option Nat, (∀ a, o = some a → kK S a = 9) → fk_10_findBinds_48 (fk_10_findBinds_14 n) (sO S (vb + 3) g) va (some (ra (chL M ch l c)[i])) (vb + 3) (Int32.ofNat x0) o = fk_10_findBinds_14 n (sO S (vb + 3) (upo g x0 o)) va (nxL ra (chL M ch l c) (i + 1)) := fun o ho => by
          unfold fk_10_findBinds_48
          have hq : ∀ {K : Option cSt}, ckq (sO S (vb + 3) g) o 9 K = K := fun {K} => by
            cases o with
            | none => rfl
            | some a => exact ckk_y (ho a rfl)
          rw [ckk_y z3, z3', ck_n hx0 (by omega), hq, lt_d, jI_cl (by omega), wO_sO, go]
        have val : ∀ o : Option Nat, (if M.2 9 (chL M ch l c)[i] = 15 then some (chL M ch l c)[i] else none : Option Nat).map ra = o → ∀ x, x < 64 → upo g x0 o x = ((match ((chL M ch l c).take (i + 1)).reverse.find? (fun r => decide (M.2 12 r = Int32.ofNat x) && gv M l up r) with | none => none | some r => if M.2 9 r = 15 then some r else none) : Option Nat).map ra := fun o ho x hx => by
          rw [take_rev hi, List.find?_cons, hg, Bool.and_true]
          by_cases ex : x = x0
          · subst ex
            rw [upo_s, decide_eq_true ex0]; exact ho.symm
          · rw [upo_o _ _ ex, decide_eq_false (fun q => ex ((jI_inj (by omega) (by omega)).mp (ex0.symm.trans q)).symm)]
            exact hI x hx
        by_cases h15 : M.2 9 (chL M ch l c)[i] = 15
        · rw [if_pos h15, wrt _ (fun a ha => by cases ha; exact r9)]
          exact ⟨_, val _ (by rw [if_pos h15]; rfl), rfl⟩
        · rw [if_neg h15, wrt _ (fun a ha => by cases ha)]
          exact ⟨_, val _ (by rw [if_neg h15]; rfl), rfl⟩))
    (chL M ch l c).length 0 mFU g0 (by omega) (chL_fu hQ c) (fun x hx => by rw [hg0 x hx]; simp)
  obtain ⟨b, h3, g, h4, h5⟩ := key
  exact ⟨g, by rw [← h4]; exact h3, h5⟩
/-- the rows by keys, in the keys' order -/
def kyL (ky : Nat → Option Nat) (n : Nat) : List Nat := (List.range n).filterMap ky
theorem kyL_succ (ky : Nat → Option Nat) (n : Nat) : kyL ky (n + 1) = kyL ky n ++ (ky n).toList := by
  unfold kyL
  rw [List.range_succ, List.filterMap_append]
  congr 1
theorem kyL_len (ky : Nat → Option Nat) (n : Nat) : (kyL ky n).length ≤ n := by
  have := List.length_filterMap_le ky (List.range n)
  rwa [List.length_range] at this
theorem k_findKeys0 (hQ : cQ M ra sl ch made mkO S bk la va ua up vb l) {ky : Nat → Option Nat} (hk : ∀ x, x < 64 → kO S (vb + 3) x = (ky x).map ra) : fk_10_findKeys_19 S va = some (Int32.ofNat (kyL ky 64).length, S) := by
  unfold fk_10_findKeys_19
  obtain ⟨⟨y0, y3, y4, y5, y6⟩, z0, z0', z1, z1', z2, z2', z3, z3', -⟩ := hQ.2.2.2.2.1
  obtain ⟨b, h1, h2⟩ := loopI (σ := Nat) (β := Int32 × cSt) (N := 64) (F := fun n st i => fk_10_findKeys_24 n S va (Int32.ofNat st) (Int32.ofNat i)) (Q := fun b => b = (Int32.ofNat (kyL ky 64).length, S)) (fun i st => st = (kyL ky i).length)
    (fun n st h => ⟨_, by
      show fk_10_findKeys_24 (n + 1) S va (Int32.ofNat st) (Int32.ofNat 64) = _
      rw [fk_10_findKeys_24]
      exact if_pos (by decide), by rw [h]⟩)
    (fun n st i hi h => Or.inl (by
      show ∃ st', _ ∧ fk_10_findKeys_24 (n + 1) S va (Int32.ofNat st) (Int32.ofNat i) = _
      rw [fk_10_findKeys_24]
      refine ⟨st + (ky i).toList.length, by rw [h, kyL_succ, List.length_append], ?_⟩
      refine (if_neg (jK 64 64 (b := i) rfl (by omega) (by decide))).trans ?_
      rw [ckk_y hQ.2.2.1.1.1, y5, bd_s, ckk_y z3, z3', ck_n hi (by omega), lt_d, jI_cl (by omega), hk i hi]
      unfold fk_10_findKeys_47
      cases ky i with
      | none =>
        show lt (Int32.ofNat st + (0 : Int32)) (fun x1 => lt (Int32.ofNat i + (1 : Int32)) fun x2 => fk_10_findKeys_24 n S va x1 x2) = _
        rw [lt_d, lt_d, Int32.add_zero, show (1 : Int32) = Int32.ofNat 1 from rfl, jI_add]; rfl
      | some r =>
        show lt (Int32.ofNat st + (1 : Int32)) (fun x1 => lt (Int32.ofNat i + (1 : Int32)) fun x2 => fk_10_findKeys_24 n S va x1 x2) = _
        rw [lt_d, lt_d, show (1 : Int32) = Int32.ofNat 1 from rfl, jI_add, jI_add]; rfl))
    64 0 mFU 0 (by omega) (by decide) rfl
  rw [← h2, ← h1]; rfl
theorem k_keyAt (hQ : cQ M ra sl ch made mkO S bk la va ua up vb l) {ky : Nat → Option Nat} (hk : ∀ x, x < 64 → kO S (vb + 3) x = (ky x).map ra) {i : Nat} (hi : i < (kyL ky 64).length) : fk_10_keyAt S va (Int32.ofNat i) = some (some (ra (kyL ky 64)[i])) := by
  unfold fk_10_keyAt
  obtain ⟨⟨y0, y3, y4, y5, y6⟩, z0, z0', z1, z1', z2, z2', z3, z3', -⟩ := hQ.2.2.2.2.1
  have hi64 := Nat.lt_of_lt_of_le hi (kyL_len ky 64)
  have pre : ∀ k, k ≤ 64 → kyL ky k <+: kyL ky 64 := by
    intro k hk
    have : ∀ d, kyL ky k <+: kyL ky (k + d) := by
      intro d
      induction d with
      | zero => exact List.prefix_refl _
      | succ d ih => rw [← Nat.add_assoc, kyL_succ]; exact ih.trans (List.prefix_append _ _)
    have h := this (64 - k)
    rwa [show k + (64 - k) = 64 by omega] at h
  obtain ⟨b, h1, h2⟩ := loopI (σ := Nat) (β := Option Nat) (N := 64) (F := fun n st k => fk_10_keyAt_4 S n va (Int32.ofNat i) (Int32.ofNat st) (Int32.ofNat k)) (Q := fun b => b = some (ra (kyL ky 64)[i])) (fun k st => st = (kyL ky k).length ∧ st ≤ i)
    (fun n st h => by obtain ⟨h1, h2⟩ := h; omega)
    (fun n st k hk64 h => by
      show (∃ st', _ ∧ fk_10_keyAt_4 S (n + 1) va (Int32.ofNat i) (Int32.ofNat st) (Int32.ofNat k) = _) ∨ ∃ b, fk_10_keyAt_4 S (n + 1) va (Int32.ofNat i) (Int32.ofNat st) (Int32.ofNat k) = _ ∧ _
      rw [fk_10_keyAt_4]
      have hne : ¬ (64 : Int32) ≤ Int32.ofNat k := fun q => absurd ((jI_le (a := 64) (b := k) (by omega) (by omega)).mp q) (by omega)
      rw [if_neg hne, ckk_y hQ.2.2.1.1.1, y5, bd_s, ckk_y z3, z3', ck_n hk64 (by omega), lt_d, jI_cl (by omega), hk k hk64]
      have hs := kyL_succ ky k
      have hst := kyL_len ky k
      unfold fk_10_keyAt_34
      cases hky : ky k with
      | none =>
        refine Or.inl ⟨st, ⟨by rw [hs, hky]; simpa using h.1, h.2⟩, ?_⟩
        show lt (Int32.ofNat k + (1 : Int32)) _ = _
        rw [lt_d, show (1 : Int32) = Int32.ofNat 1 from rfl, jI_add]
      | some r =>
        rw [hky] at hs
        by_cases e : st = i
        · refine Or.inr ⟨some (ra r), ?_, ?_⟩
          · show (if Int32.ofNat st = Int32.ofNat i then _ else _) = _
            rw [if_pos (by rw [e]), ckk_y hQ.2.2.1.1.1, bd_s, ckk_y z3, z3', ck_n hk64 (by omega), lt_d, hk k hk64, hky]; rfl
          · have hp := pre (k + 1) (by omega)
            rw [hs] at hp
            have : (kyL ky 64)[i] = (kyL ky k ++ [r])[i]'(by rw [List.length_append]; show i < _ + 1; omega) := (hp.getElem _).symm
            rw [this, List.getElem_append_right (by omega)]
            congr 2
            simp
        · refine Or.inl ⟨st + 1, ⟨by rw [hs, List.length_append, h.1]; rfl, by omega⟩, ?_⟩
          show (if Int32.ofNat st = Int32.ofNat i then _ else _) = _
          rw [if_neg (fun q => e ((jI_inj (by omega) (by omega)).mp q)), lt_d, lt_d, show (1 : Int32) = Int32.ofNat 1 from rfl, jI_add, jI_add])
    64 0 mFU 0 (by omega) (by decide) ⟨rfl, Nat.zero_le _⟩
  rw [← h2, ← h1]; rfl
/-- what a row adds to a node's share -/
def shC (M : mSt) (q r : Nat) : Int32 := (if rN r = q then (if M.2 9 r = 4 then M.2 12 r else - M.2 12 r) else 0) + (if M.2 9 r = 6 ∧ M.2 13 r = Int32.ofNat q then M.2 12 r else 0)
def shN (M : mSt) (ch : Nat → Int32) (l : List Nat) (up c q : Nat) : Int32 := (chL M ch l c).reverse.foldl (fun s r => if gv M l up r then s + shC M q r else s) 0
theorem k_findShares {c : Nat} (hc : c < 385) (hQ : cQ M ra sl ch made mkO S bk la va ua up vb l) (hv : ∀ r ∈ chL M ch l c, M.2 9 r = 6 → ∃ x, x < 4 ∧ M.2 13 r = Int32.ofNat x) : ∃ f, fk_10_findShares S va (Int32.ofNat c) = some (sI S (vb + 4) f) ∧ (∀ q, q < 4 → f q = shN M ch l up c q) ∧ f 4 = shN M ch l up c 0 + shN M ch l up c 1 + shN M ch l up c 2 + shN M ch l up c 3 := by
  obtain ⟨⟨a0, a3, a4, a5, a6⟩, w0, w0', w1, w1', w2, w2', w3, w3', w4, w4'⟩ := hQ.2.2.2.2.1
  unfold fk_10_findShares
  obtain ⟨f0, e0, h0⟩ := k_fill w4 w4' (by decide) 0
  rw [ckk_y hQ.2.2.1.1.1, a6, bd_s, e0, bd_s]
  have h2 := cQ_sI hQ (p := vb + 4) f0 (by omega)
  rw [ckk_y h2.2.2.1.1.1, h2.2.2.1.1.2.2.2.1, bd_s, k_at hc h2.2.1]
  obtain ⟨b, h3, f, h4, h5, h5'⟩ := walkDI (σ := Nat → Int32) (β := cSt) (ra := ra) (L := chL M ch l c) (F := fun n f o => fk_10_findShares_18 n (sI S (vb + 4) f) va o) (Q := fun b => ∃ f, b = sI S (vb + 4) f ∧ (∀ q, q < 4 → f q = shN M ch l up c q) ∧ f 4 = shN M ch l up c 0 + shN M ch l up c 1 + shN M ch l up c 2 + shN M ch l up c 3)
    (fun i f => ∀ q, q < 4 → f q = ((chL M ch l c).drop i).reverse.foldl (fun s r => if gv M l up r then s + shC M q r else s) 0)
    (fun n f h => by
      have h6 := cQ_sI hQ (p := vb + 4) f (by omega)
      have x6 : kR (sI S (vb + 4) f) va 6 = some (vb + 4) := a6
      have x4 : kK (sI S (vb + 4) f) (vb + 4) = 20 := w4
      have x4' : kL (sI S (vb + 4) f) (vb + 4) = 5 := w4'
      refine ⟨sI S (vb + 4) (upd f 4 (f 0 + f 1 + f 2 + f 3)), ?_, _, rfl, ?_, ?_⟩
      · show fk_10_findShares_18 (n + 1) (sI S (vb + 4) f) va none = _
        rw [fk_10_findShares_18]
        show ckk (sI S (vb + 4) f) va 11 _ = _
        simp only [ckk_y h6.2.2.1.1.1, x6, bd_s, ckk_y x4, x4', lt_d, kI_sI]
        show some (cWi (sI S (vb + 4) f) (vb + 4) 4 _) = _
        rw [wI_sI]; rfl
      · intro q hq
        rw [upd_o _ _ (by omega), h q hq]; rfl
      · rw [upd_s, h 0 (by decide), h 1 (by decide), h 2 (by decide), h 3 (by decide)]; rfl)
    (fun n f i hi h => Or.inl (by
      have h6 := cQ_sI hQ (p := vb + 4) f (by omega)
      obtain ⟨q1, q2, r9, ⟨r0, -, -, r4, r4', -⟩, ⟨r2, -⟩, -⟩ := chL_row hQ hi
      have go : ∀ g, fk_10_findShares_87 (fk_10_findShares_18 n) (sI S (vb + 4) g) va (some (ra (chL M ch l c)[i])) = fk_10_findShares_18 n (sI S (vb + 4) g) va (pvL ra (chL M ch l c) i) := fun g => by
        have h7 := cQ_sI hQ (p := vb + 4) g (by omega)
        unfold fk_10_findShares_87
        rw [ckk_y h7.2.2.1.1.1, h7.2.2.1.1.2.2.2.1, bd_s]
        exact k_dn hc h7.1 h7.2.1 h7.2.2.2.1 hi (fun o => fk_10_findShares_18 n (sI S (vb + 4) g) va o)
      show ∃ st', _ ∧ fk_10_findShares_18 (n + 1) (sI S (vb + 4) f) va (some (ra (chL M ch l c)[i])) = _
      rw [fk_10_findShares_18]
      show ∃ st', _ ∧ ckk (sI S (vb + 4) f) va 11 _ = _
      have hd := List.drop_eq_getElem_cons hi
      rw [hd]
      have hfold : ∀ q, (((chL M ch l c)[i] :: (chL M ch l c).drop (i + 1)).reverse.foldl (fun s r => if gv M l up r then s + shC M q r else s) 0) = if gv M l up (chL M ch l c)[i] then (((chL M ch l c).drop (i + 1)).reverse.foldl (fun s r => if gv M l up r then s + shC M q r else s) 0) + shC M q (chL M ch l c)[i] else (((chL M ch l c).drop (i + 1)).reverse.foldl (fun s r => if gv M l up r then s + shC M q r else s) 0) := fun q => by
        rw [List.reverse_cons, List.foldl_append]; rfl
      rw [ckk_y h6.2.2.1.1.1, k_isGood h6.1 h6.2.1 h6.2.2.1 h6.2.2.2.1 q1 q2, bd_s]
      cases hg : gv M l up (chL M ch l c)[i]
      · refine ⟨f, fun q hq => ?_, by rw [if_pos bFn, go]⟩
        rw [hfold, hg]; exact h q hq
      · have hn4 := rN_lt q1
        have x6 : ∀ g, kR (sI S (vb + 4) g) va 6 = some (vb + 4) := fun _ => a6
        have x4 : ∀ g, kK (sI S (vb + 4) g) (vb + 4) = 20 := fun _ => w4
        have x4' : ∀ g, kL (sI S (vb + 4) g) (vb + 4) = 5 := fun _ => w4'
        have r9' : ∀ g, kK (sI S (vb + 4) g) (ra (chL M ch l c)[i]) = 9 := fun _ => r9
        have r0' : ∀ g, kF (sI S (vb + 4) g) (ra (chL M ch l c)[i]) 0 = _ := fun _ => r0
        have r4a : ∀ g, kF (sI S (vb + 4) g) (ra (chL M ch l c)[i]) 4 = _ := fun _ => r4
        have r4b : ∀ g, kF (sI S (vb + 4) g) (ra (chL M ch l c)[i]) 5 = _ := fun _ => r4'
        have r2a : ∀ g, kF (sI S (vb + 4) g) (ra (chL M ch l c)[i]) 6 = _ := fun _ => r2
        have x1 : ∀ g, kK (sI S (vb + 4) g) va = 11 := fun _ => hQ.2.2.1.1.1
        have one : ∀ y : Int32, (∀ q, (if rN (chL M ch l c)[i] = q then y else 0) = (if rN (chL M ch l c)[i] = q then (if M.2 9 (chL M ch l c)[i] = 4 then M.2 12 (chL M ch l c)[i] else - M.2 12 (chL M ch l c)[i]) else 0)) → ∃ st' : Nat → Int32, (∀ q, q < 4 → st' q = f q + shC M q (chL M ch l c)[i]) ∧ fk_10_findShares_60 (fk_10_findShares_18 n) (sI S (vb + 4) f) va (some (ra (chL M ch l c)[i])) (vb + 4) (Int32.ofNat (rN (chL M ch l c)[i])) (f (rN (chL M ch l c)[i])) y = fk_10_findShares_18 n (sI S (vb + 4) st') va (pvL ra (chL M ch l c) i) := fun y hy => by
          unfold fk_10_findShares_60
          rw [ckk_y (x4 _), x4', ck_n (by omega) (by omega), lt_d, jI_cl (by omega), wI_sI, bd_s, ckk_y (r9' _), r0']
          have f1 : ∀ q, upd f (rN (chL M ch l c)[i]) (f (rN (chL M ch l c)[i]) + y) q = f q + (if rN (chL M ch l c)[i] = q then y else 0) := fun q => by
            by_cases e : q = rN (chL M ch l c)[i]
            · rw [e, upd_s, if_pos rfl]
            · rw [upd_o _ _ e, if_neg (fun h => e h.symm), Int32.add_zero]
          by_cases h60 : M.2 9 (chL M ch l c)[i] = 6
          · obtain ⟨w, hw, ew⟩ := hv _ (List.getElem_mem hi) h60
            rw [if_pos h60, ckk_y (x1 _), x6, bd_s]
            simp only [ckk_y (r9' _), ckk_y (x4 _), x4', r4a, r4b, ew, ck_n (show w < 5 by omega) (show w < 2147483648 by omega), jI_cl (show w < 2147483648 by omega), lt_d, kI_sI, wI_sI]
            refine ⟨_, fun q hq => ?_, go _⟩
            unfold shC
            rw [← hy q]
            by_cases e : q = w
            · subst e
              rw [upd_s, f1, if_pos (show M.2 9 (chL M ch l c)[i] = 6 ∧ M.2 13 (chL M ch l c)[i] = Int32.ofNat q from ⟨h60, ew⟩), Int32.add_assoc]
            · rw [upd_o _ _ e, f1, if_neg (fun h : M.2 9 (chL M ch l c)[i] = 6 ∧ M.2 13 (chL M ch l c)[i] = Int32.ofNat q => e ((jI_inj (by omega) (by omega)).mp (ew.symm.trans h.2)).symm), Int32.add_zero]
          · rw [if_neg h60, go]
            refine ⟨_, fun q hq => ?_, rfl⟩
            unfold shC
            rw [f1, ← hy q, if_neg (fun h : M.2 9 (chL M ch l c)[i] = 6 ∧ M.2 13 (chL M ch l c)[i] = Int32.ofNat q => h60 h.1), Int32.add_zero]
        have fin : (∃ st' : Nat → Int32, (∀ q, q < 4 → st' q = f q + shC M q (chL M ch l c)[i]) ∧ (if M.2 9 (chL M ch l c)[i] = (4 : Int32) then fk_10_findShares_60 (fk_10_findShares_18 n) (sI S (vb + 4) f) va (some (ra (chL M ch l c)[i])) (vb + 4) (Int32.ofNat (rN (chL M ch l c)[i])) (f (rN (chL M ch l c)[i])) (M.2 12 (chL M ch l c)[i]) else fk_10_findShares_60 (fk_10_findShares_18 n) (sI S (vb + 4) f) va (some (ra (chL M ch l c)[i])) (vb + 4) (Int32.ofNat (rN (chL M ch l c)[i])) (f (rN (chL M ch l c)[i])) (-(M.2 12 (chL M ch l c)[i]))) = fk_10_findShares_18 n (sI S (vb + 4) st') va (pvL ra (chL M ch l c) i)) := by
          by_cases h40 : M.2 9 (chL M ch l c)[i] = 4
          · rw [if_pos h40]; exact one _ (fun q => by rw [if_pos h40])
          · rw [if_neg h40]; exact one _ (fun q => by rw [if_neg h40])
        obtain ⟨st', k1, k2⟩ := fin
        refine ⟨st', fun q hq => by rw [hfold, hg, k1 q hq, h q hq]; rfl, ?_⟩
        rw [if_neg bTn, ckk_y h6.2.2.1.1.1, x6, bd_s, ckk_y (r9' _), ckk_y (x4 _), x4', r2a, ck_n (by omega) (by omega), ckk_y (r9' _), ckk_y (r9' _), ckk_y (r9' _), r0', r4a, jI_cl (by omega), kI_sI]
        exact k2))
    (chL M ch l c).length mFU f0 (Nat.le_refl _) (chL_fu hQ c) (fun q hq => by rw [h0 q (by omega), List.drop_length]; rfl)
  exact ⟨f, by rw [← h4]; exact h3, h5, h5'⟩
end V

-- part 30: slots of names, parents
/-- the slot of a name -/
def slF (mkO : Nat → Option Nat) (x : Int32) : Option Nat := (List.range 48).find? (fun j => match mkO j with | none => false | some r => decide (x = Int32.ofNat (rNm r)))
theorem slF_some {mkO : Nat → Option Nat} {x : Int32} {j : Nat} (h : slF mkO x = some j) : j < 48 ∧ ∃ r, mkO j = some r ∧ x = Int32.ofNat (rNm r) := by
  unfold slF at h
  have h1 := List.mem_of_find?_eq_some h
  have h2 := List.find?_some h
  refine ⟨List.mem_range.mp h1, ?_⟩
  cases hm : mkO j with
  | none => rw [hm] at h2; cases h2
  | some r => rw [hm] at h2; exact ⟨r, rfl, of_decide_eq_true h2⟩
theorem slF_none {mkO : Nat → Option Nat} {x : Int32} (h : slF mkO x = none) {j r : Nat} (hj : j < 48) (hm : mkO j = some r) : x ≠ Int32.ofNat (rNm r) := by
  intro e
  have h1 := List.find?_eq_none.mp h j (List.mem_range.mpr hj)
  rw [hm] at h1
  exact h1 (decide_eq_true e)
def undr (pr : Nat → Option Nat) (top : Nat) : Nat → Option Nat → Bool
  | 0, _ => false
  | _ + 1, none => false
  | n + 1, some a => if a = top then true else undr pr top n (pr a)
/-- a parent as the class keeps it -/
def pI (pr : Nat → Option Nat) (j : Nat) : Int32 := match pr j with | none => 0 | some p => Int32.ofNat (p + 1)
theorem pI_sub {pr : Nat → Option Nat} {j : Nat} : pI pr j - 1 = rI (pr j) := by
  unfold pI rI
  cases pr j with
  | none => rfl
  | some p => show Int32.ofNat (p + 1) - Int32.ofNat 1 = _; rw [jI_sub (by omega)]; rfl
theorem k_isUnder {S : cSt} {p top : Nat} {pr : Nat → Option Nat} (hk : kK S p = 20) (hl : kL S p = 48) (ht : top < 48) (hc : ∀ j, j < 48 → kI S p j = pI pr j) (hp : ∀ j q, j < 48 → pr j = some q → q < 48) : ∀ (j i fu : Nat) (a : Option Nat), i + j = 48 → j < fu → (∀ q, a = some q → q < 48) → fk_10_isUnder_5 S fu p (Int32.ofNat top) (rI a) (Int32.ofNat i) = some (b2 (undr pr top j a = true)) := by
  intro j
  induction j with
  | zero =>
    intro i fu a hi hf ha
    obtain ⟨fu, rfl⟩ : ∃ q, fu = q + 1 := ⟨fu - 1, by omega⟩
    rw [fk_10_isUnder_5]
    refine (if_pos ((jI_le (a := 48) (b := i) (by omega) (by omega)).mpr (by omega))).trans ?_
    rw [b2_f (by unfold undr; simp)]; rfl
  | succ j ih =>
    intro i fu a hi hf ha
    obtain ⟨fu, rfl⟩ : ∃ q, fu = q + 1 := ⟨fu - 1, by omega⟩
    rw [fk_10_isUnder_5]
    refine (if_neg (jK 48 48 (b := i) rfl (by omega) (by decide))).trans ?_
    cases a with
    | none => rw [if_pos (show rI none < 0 by decide), b2_f (by unfold undr; simp)]; rfl
    | some a =>
      have ha' := ha a rfl
      rw [if_neg (show ¬ rI (some a) < 0 from jI_nn (by omega))]
      have hu : undr pr top (j + 1) (some a) = if a = top then true else undr pr top j (pr a) := rfl
      by_cases e : a = top
      · rw [if_pos (show rI (some a) = Int32.ofNat top by rw [e]; rfl), hu, if_pos e, b2_t rfl]; rfl
      · rw [if_neg (show ¬ rI (some a) = Int32.ofNat top from fun q => e ((jI_inj (by omega) (by omega)).mp q)), hu, if_neg e, ckk_y hk, hl]
        show ck (Int32.ofNat a) 48 (lt (kI S p (Int32.ofNat a).toNatClampNeg - 1) _) = _
        rw [ck_n ha' (by omega), lt_d, jI_cl (by omega), hc a ha', pI_sub, lt_d, show (1 : Int32) = Int32.ofNat 1 from rfl, jI_add]
        exact ih (i + 1) fu (pr a) (by omega) (by omega) (fun q hq => hp a q ha' hq)
/-- a move's step on parents by slots -/
def pSt (M : mSt) (mkO : Nat → Option Nat) (sl : Nat → Int32) (pr : Nat → Option Nat) (r : Nat) : Nat → Option Nat := match slF mkO (M.2 12 r) with
  | none => upo pr (sl r).toNatClampNeg none
  | some p => if undr pr (sl r).toNatClampNeg 48 (some p) then pr else upo pr (sl r).toNatClampNeg (some p)
def paL (M : mSt) (mkO : Nat → Option Nat) (sl : Nat → Int32) (L : List Nat) : Nat → Option Nat := L.foldl (pSt M mkO sl) (fun _ => none)
def paF (M : mSt) (ch sl : Nat → Int32) (mkO : Nat → Option Nat) (l : List Nat) (up : Nat) : Nat → Option Nat := paL M mkO sl ((chL M ch l 384).filter (gv M l up))
theorem pSt_lt {M : mSt} {mkO : Nat → Option Nat} {sl : Nat → Int32} {pr : Nat → Option Nat} (h : ∀ j q, pr j = some q → q < 48) (r : Nat) : ∀ j q, pSt M mkO sl pr r j = some q → q < 48 := by
  intro j q
  unfold pSt
  cases hs : slF mkO (M.2 12 r) with
  | none =>
    intro hq
    have hq : upo pr (sl r).toNatClampNeg none j = some q := hq
    by_cases e : j = (sl r).toNatClampNeg
    · subst e; rw [upo_s] at hq; cases hq
    · rw [upo_o _ _ e] at hq; exact h j q hq
  | some p =>
    show (if undr pr (sl r).toNatClampNeg 48 (some p) then pr else upo pr (sl r).toNatClampNeg (some p)) j = some q → _
    split
    · exact h j q
    · intro hq
      by_cases e : j = (sl r).toNatClampNeg
      · subst e; rw [upo_s] at hq; cases hq; exact (slF_some hs).1
      · rw [upo_o _ _ e] at hq; exact h j q hq
theorem paL_lt (M : mSt) (mkO : Nat → Option Nat) (sl : Nat → Int32) (L : List Nat) : ∀ j q, paL M mkO sl L j = some q → q < 48 := by
  unfold paL
  have key : ∀ (L : List Nat) (pr : Nat → Option Nat), (∀ j q, pr j = some q → q < 48) → ∀ j q, L.foldl (pSt M mkO sl) pr j = some q → q < 48 := by
    intro L
    induction L with
    | nil => intro pr h; exact h
    | cons r L ih => intro pr h; exact ih _ (pSt_lt h r)
  exact key L _ (fun j q h => by cases h)
section V
variable {M : mSt} {ra : Nat → Nat} {sl ch : Nat → Int32} {made : Nat → Prop} {mkO : Nat → Option Nat} {S S' : cSt} {bk la va ua up vb : Nat} {l : List Nat} {W : Nat → Prop}
theorem cQ_w (h : cQ M ra sl ch made mkO S bk la va ua up vb l) (e : cEq W S S') (hW : ∀ a, W a → bk + 5 ≤ a ∧ a < bk + 128 ∧ (a < la ∨ la + 8 ≤ a) ∧ a ≠ ua ∧ a ≠ va) : cQ M ra sl ch made mkO S' bk la va ua up vb l := by
  obtain ⟨h1, h2, h3, h4, h5, h6⟩ := h
  exact ⟨cBk_eq h1 e (fun a q => by have := hW a q; omega), cLed_eq h2 e (fun a q => (hW a q).2.2.1), cVw_eq h3 e (fun q => (hW va q).2.2.2.2 rfl) (fun q => (hW ua q).2.2.2.1 rfl), h4, vwA_eq h5 e (fun q => (hW va q).2.2.2.2 rfl), h6⟩
theorem k_slotOf (hB : cBk M ra sl ch made mkO S bk) (hm : ∀ r, r < 1000 → made r → M.2 9 r = 0 → ∃ j, j < 48 ∧ mkO j = some r) (x : Int32) : fk_0_slotOf S bk x = some (rI (slF mkO x)) := by
  unfold fk_0_slotOf fk_0_slotOf_24 fk_0_slotOf_25
  rw [ckk_y hB.1.1, k_rowNamed hB, bd_s]
  cases hs : slF mkO x with
  | some j =>
    obtain ⟨hj, r, h1, h2⟩ := slF_some hs
    obtain ⟨q1, q2, q3, q4⟩ := (hB.2.2.2.2 j hj).2 r h1
    obtain ⟨b1, k9, ⟨k0, -⟩, -, k1, -⟩ := hB.2.2.1 r q1 q2
    rw [h2, rOf_nm q1]
    show cs (kO S (bk + 1) r) _ _ = _
    rw [b1]
    show ckk S (ra r) 9 _ = _
    rw [ckk_y k9, k0, if_pos q3, ckk_y k9, k1, q4]; rfl
  | none =>
    cases hr : rOf x with
    | none => rfl
    | some r =>
      have hr4 := rOf_lt hr
      show cs (kO S (bk + 1) r) _ _ = _
      by_cases hmd : made r
      · obtain ⟨b1, k9, ⟨k0, -⟩, -⟩ := hB.2.2.1 r hr4 hmd
        rw [b1]
        show ckk S (ra r) 9 _ = _
        rw [ckk_y k9, k0, if_neg]
        · rfl
        · intro h0
          obtain ⟨j, hj, h1⟩ := hm r hr4 hmd h0
          exact slF_none hs hj h1 (rOf_inv hr)
      · rw [hB.2.2.2.1 r hr4 hmd]; rfl
theorem k_findParents (hQ : cQ M ra sl ch made mkO S bk la va ua up vb l) (hm : ∀ r, r < 1000 → made r → M.2 9 r = 0 → ∃ j, j < 48 ∧ mkO j = some r) {p : Nat} (hk : kK S p = 20) (hl : kL S p = 48) (hp : bk + 5 ≤ p ∧ p < bk + 128 ∧ (p < la ∨ la + 8 ≤ p) ∧ p ≠ ua ∧ p ≠ va) (hs : ∀ r ∈ chL M ch l 384, ∃ s, s < 48 ∧ sl r = Int32.ofNat s) : ∃ f, fk_10_findParents S va p = some (sI S p f) ∧ ∀ j, j < 48 → f j = pI (paF M ch sl mkO l up) j := by
  unfold fk_10_findParents
  obtain ⟨f0, e0, h0⟩ := k_fill hk hl (by decide) 0
  have wW : ∀ f, cQ M ra sl ch made mkO (sI S p f) bk la va ua up vb l := fun f => cQ_w (W := fun a => a = p) hQ (cEq_sI f rfl) (fun a ha => by subst ha; exact hp)
  have h2 := wW f0
  rw [e0, bd_s, ckk_y h2.2.2.1.1.1, h2.2.2.1.1.2.2.2.1, bd_s, show (384 : Int32) = Int32.ofNat 384 from rfl, k_at0 (by decide) h2.2.1]
  obtain ⟨b, h3, f, h4, h5⟩ := walkAI (σ := Nat → Int32) (β := cSt) (ra := ra) (L := chL M ch l 384) (F := fun n f o => fk_10_findParents_17 n (sI S p f) va p o) (Q := fun b => ∃ f, b = sI S p f ∧ ∀ j, j < 48 → f j = pI (paF M ch sl mkO l up) j)
    (fun i f => ∀ j, j < 48 → f j = pI (paL M mkO sl (((chL M ch l 384).take i).filter (gv M l up))) j)
    (fun n f h => ⟨_, by rw [fk_10_findParents_17]; rfl, f, rfl, by rw [List.take_length] at h; exact h⟩)
    (fun n f i hi h => Or.inl (by
      have h6 := wW f
      obtain ⟨q1, q2, r9, ⟨r0, -, -, r4, -⟩, -, r1, -⟩ := chL_row hQ hi
      have go : ∀ g, fk_10_findParents_66 (fk_10_findParents_17 n) (sI S p g) va p (some (ra (chL M ch l 384)[i])) = fk_10_findParents_17 n (sI S p g) va p (nxL ra (chL M ch l 384) (i + 1)) := fun g => by
        have h7 := wW g
        unfold fk_10_findParents_66
        rw [ckk_y h7.2.2.1.1.1, h7.2.2.1.1.2.2.2.1, bd_s]
        exact k_up (by decide) h7.1 h7.2.1 h7.2.2.2.1 hi (fun o => fk_10_findParents_17 n (sI S p g) va p o)
      show ∃ st', _ ∧ fk_10_findParents_17 (n + 1) (sI S p f) va p (some (ra (chL M ch l 384)[i])) = _
      rw [fk_10_findParents_17]
      show ∃ st', _ ∧ ckk (sI S p f) va 11 _ = _
      rw [take_app hi, List.filter_append, ckk_y h6.2.2.1.1.1, k_isGood h6.1 h6.2.1 h6.2.2.1 h6.2.2.2.1 q1 q2, bd_s]
      cases hg : gv M l up (chL M ch l 384)[i]
      · refine ⟨f, fun j hj => ?_, by rw [if_pos bFn, go]⟩
        rw [h j hj]; simp [hg]
      · obtain ⟨s, hs48, es⟩ := hs _ (List.getElem_mem hi)
        have r9' : kK (sI S p f) (ra (chL M ch l 384)[i]) = 9 := r9
        have r4a : kF (sI S p f) (ra (chL M ch l 384)[i]) 4 = _ := r4
        have r1a : kF (sI S p f) (ra (chL M ch l 384)[i]) 1 = _ := r1
        have hk' : kK (sI S p f) p = 20 := hk
        have hl' : kL (sI S p f) p = 48 := hl
        have hL1 : List.filter (gv M l up) [(chL M ch l 384)[i]] = [(chL M ch l 384)[i]] := by simp [hg]
        rw [hL1]
        have hpa : ∀ pr, (pr = paL M mkO sl (((chL M ch l 384).take i).filter (gv M l up))) → paL M mkO sl (((chL M ch l 384).take i).filter (gv M l up) ++ [(chL M ch l 384)[i]]) = pSt M mkO sl pr (chL M ch l 384)[i] := fun pr e => by
          rw [e]; unfold paL; rw [List.foldl_append]; rfl
        have hlt := paL_lt M mkO sl (((chL M ch l 384).take i).filter (gv M l up))
        generalize paL M mkO sl (((chL M ch l 384).take i).filter (gv M l up)) = pr at h hlt hpa
        rw [hpa pr rfl]
        rw [if_neg bTn, ckk_y h6.2.2.1.1.1, h6.2.2.1.1.2.1, bd_s, ckk_y r9', ckk_y h6.1.1.1, r4a, k_slotOf h6.1 hm, bd_s]
        have wrt : ∀ o : Option Nat, (∀ q, o = some q → q < 48) → (∀ j, j < 48 → upd f s (rI o + 1) j = pI (upo pr s o) j) ∧ fk_10_findParents_57 (fk_10_findParents_17 n) (sI S p f) va p (some (ra (chL M ch l 384)[i])) (rI o) = fk_10_findParents_17 n (sI S p (upd f s (rI o + 1))) va p (nxL ra (chL M ch l 384) (i + 1)) := fun o ho => by
          constructor
          · intro j hj
            by_cases e : j = s
            · subst e
              rw [upd_s]
              unfold pI
              rw [upo_s]
              cases o with
              | none => rfl
              | some q => show Int32.ofNat q + Int32.ofNat 1 = _; rw [jI_add]
            · rw [upd_o _ _ e, h j hj]
              unfold pI
              rw [upo_o _ _ e]
          · unfold fk_10_findParents_57
            rw [bd_s, ckk_y r9', ckk_y hk', hl', r1a, es, ck_n hs48 (by omega), lt_d, jI_cl (by omega), wI_sI, go]
        unfold pSt
        rw [es, jI_cl (show s < 2147483648 by omega)]
        cases hsl : slF mkO (M.2 12 (chL M ch l 384)[i]) with
        | none =>
          rw [if_pos (show rI none < 0 by decide)]
          obtain ⟨w1, w2⟩ := wrt none (fun q hq => by cases hq)
          exact ⟨_, w1, w2⟩
        | some t =>
          have ht48 := (slF_some hsl).1
          rw [if_neg (show ¬ rI (some t) < 0 from jI_nn (by omega)), ckk_y r9', r1a, es]
          have hu := k_isUnder (S := sI S p f) (p := p) (top := s) (pr := pr) hk' hl' hs48 (fun j hj => by rw [kI_sI]; exact h j hj) (fun j q _ hq => hlt j q hq) 48 0 mFU (some t) (by omega) (by decide) (fun q hq => by cases hq; exact ht48)
          have hu' : fk_10_isUnder (sI S p f) p (rI (some t)) (Int32.ofNat s) = _ := hu
          rw [hu', bd_s]
          cases hun : undr pr s 48 (some t)
          · rw [if_pos bFn]
            obtain ⟨w1, w2⟩ := wrt (some t) (fun q hq => by cases hq; exact ht48)
            refine ⟨_, ?_, w2⟩
            show ∀ j, j < 48 → _ = pI (if undr pr s 48 (some t) = true then pr else upo pr s (some t)) j
            rw [hun]; exact w1
          · rw [if_neg bTn, go]
            refine ⟨f, ?_, rfl⟩
            show ∀ j, j < 48 → _ = pI (if undr pr s 48 (some t) = true then pr else upo pr s (some t)) j
            rw [hun]; exact h))
    (chL M ch l 384).length 0 mFU f0 (by omega) (chL_fu hQ 384) (fun j hj => by rw [h0 j hj]; rfl)
  exact ⟨f, by rw [← h4]; exact h3, h5⟩
end V

-- part 31: the reference, reading: core and scratch
def mEx (W : Nat → Prop) (A B : mSt) : Prop := ∀ k, ¬ W k → B.1 k = A.1 k ∧ B.2 k = A.2 k
def sc : Nat → Prop := fun k => 47 ≤ k
theorem mEx_refl (W : Nat → Prop) (A : mSt) : mEx W A A := fun _ _ => ⟨rfl, rfl⟩
theorem mEx_trans {W : Nat → Prop} {A B C : mSt} (h : mEx W A B) (h' : mEx W B C) : mEx W A C := fun k hk => ⟨(h' k hk).1.trans (h k hk).1, (h' k hk).2.trans (h k hk).2⟩
theorem mEx_mono {W W' : Nat → Prop} {A B : mSt} (h : mEx W A B) (hW : ∀ k, W k → W' k) : mEx W' A B := fun k hk => h k (fun q => hk (hW k q))
theorem mEx_wr {W : Nat → Prop} {A : mSt} {k : Nat} (h : W k) (i x : Int32) : mEx W A (wr A k i x) := fun j hj => ⟨rfl, by
  have e : j ≠ k := fun e => hj (e ▸ h)
  unfold wr; simp [e]⟩
theorem mEx_pu {W : Nat → Prop} {A : mSt} {k : Nat} (h : W k) (x : Int32) : mEx W A (pu A k x) := fun j hj => ⟨by
  have e : j ≠ k := fun e => hj (e ▸ h)
  unfold pu upd; simp [e], rfl⟩
theorem mEx_mu {W : Nat → Prop} {A : mSt} {k : Nat} (h : W k) (f : Nat → Int32) : mEx W A (mu A k f) := fun j hj => ⟨rfl, by
  have e : j ≠ k := fun e => hj (e ▸ h)
  rw [mu_ne _ _ e]⟩
theorem mEx_wr1 {A : mSt} {k : Nat} (i x : Int32) : mEx (fun j => j = k) A (wr A k i x) := mEx_wr (W := fun j => j = k) (k := k) rfl i x
theorem wr_s (A : mSt) (k : Nat) {i : Nat} (hi : i < 2147483648) (x : Int32) : (wr A k (Int32.ofNat i) x).2 k = upd (A.2 k) i x := by unfold wr; rw [jI_cl hi]; simp
theorem wr_o (A : mSt) {k j : Nat} (i x : Int32) (h : j ≠ k) : (wr A k i x).2 j = A.2 j := by unfold wr; simp [h]
theorem wr_1 (A : mSt) (k : Nat) (i x : Int32) : (wr A k i x).1 = A.1 := rfl
theorem pu_s (A : mSt) (k : Nat) (x : Int32) : (pu A k x).1 k = x := by unfold pu upd; simp
theorem pu_o (A : mSt) {k j : Nat} (x : Int32) (h : j ≠ k) : (pu A k x).1 j = A.1 j := by unfold pu upd; simp [h]
theorem pu_2 (A : mSt) (k : Nat) (x : Int32) : (pu A k x).2 = A.2 := rfl
theorem rd_e {M A : mSt} (e : mEx sc M A) {k i : Nat} (hk : k < 47) (hi : i < 2147483648) : rd A k (Int32.ofNat i) = M.2 k i := by
  rw [rd_n _ _ hi, (e k (by unfold sc; omega)).2]
/-- the rows l are the first that node n applied -/
def lAt (M : mSt) (n : Nat) (l : List Nat) : Prop := n < 4 ∧ l.length ≤ 1000 ∧ ∀ i (h : i < l.length), M.2 24 (1000 * n + i) = Int32.ofNat l[i] ∧ l[i] < 1000
theorem lAt_take {M : mSt} {n : Nat} {l : List Nat} (h : lAt M n l) (u : Nat) : lAt M n (l.take u) := by
  obtain ⟨h1, h2, h3⟩ := h
  refine ⟨h1, by rw [List.length_take]; omega, fun i hi => ?_⟩
  rw [List.length_take] at hi
  rw [List.getElem_take]
  exact h3 i (by omega)
theorem m_rowAtL {M A : mSt} (e : mEx sc M A) {n : Nat} {l : List Nat} (hl : lAt M n l) {i : Nat} (hi : i < l.length) : fm_rowAt A (Int32.ofNat n) (Int32.ofNat i) = some (Int32.ofNat l[i]) := by
  obtain ⟨h1, h2, h3⟩ := hl
  unfold fm_rowAt
  rw [show (1000 : Int32) = Int32.ofNat 1000 from rfl, jI_mul, jI_add, ck_n (by omega) (by omega), rd_e e (by decide) (by omega), (h3 i hi).1]
theorem isT_e {M A : mSt} (e : mEx sc M A) : isT A = isT M := by
  funext t r
  unfold isT
  rw [(e 9 (by unfold sc; omega)).2, (e 13 (by unfold sc; omega)).2]
theorem gd_e {M A : mSt} (e : mEx sc M A) : gd A = gd M := by
  funext l t
  unfold gd
  rw [isT_e e, (e 9 (by unfold sc; omega)).2]
theorem jd_e {M A : mSt} (e : mEx sc M A) : jd A = jd M := by
  funext l t
  unfold jd
  rw [isT_e e]
theorem rK_e {M A : mSt} (e : mEx sc M A) : rK A = rK M := by
  funext r
  unfold rK
  rw [(e 14 (by unfold sc; omega)).2, (e 15 (by unfold sc; omega)).2]
def jOkL (M : mSt) (l : List Nat) : Prop := ∀ i (h : i < l.length), (M.2 9 l[i] = 13 ∨ M.2 9 l[i] = 14) → ∃ t, rOf (M.2 13 l[i]) = some t ∧ jd M (l.take i) t < rM l[i]
theorem jOkL_take {M : mSt} {l : List Nat} (h : jOkL M l) (u : Nat) : jOkL M (l.take u) := by
  intro i hi
  rw [List.length_take] at hi
  rw [List.getElem_take, List.take_take, Nat.min_eq_left (by omega)]
  exact h i (by omega)
theorem oL_take {M A : mSt} (e : mEx sc M A) {n : Nat} {l : List Nat} (hl : lAt M n l) (u : Nat) (hu : u ≤ l.length) : oL A n u = l.take u := by
  obtain ⟨h1, h2, h3⟩ := hl
  apply List.ext_getElem
  · rw [oL_len, List.length_take]; omega
  · intro i hi hi2
    rw [oL_get, List.getElem_take]
    rw [oL_len] at hi
    unfold oR
    rw [(e 24 (by unfold sc; omega)).2, (h3 i (by omega)).1, jI_cl]
    have := (h3 i (by omega)).2
    omega
theorem m_judgeL {M A : mSt} (e : mEx sc M A) {n : Nat} {l : List Nat} (hl : lAt M n l) (hj : jOkL M l) : ∃ B, fm_judge A (Int32.ofNat n) (Int32.ofNat l.length) = some B ∧ mEx (fun k => k = 47 ∨ k = 48) A B ∧ (∀ r, r < 1000 → B.2 47 r = b2 (gd M l r = true)) ∧ ∀ r, r < 1000 → B.2 48 r = Int32.ofNat (jd M l r) := by
  obtain ⟨h1, h2, h3⟩ := hl
  have o := oL_take e ⟨h1, h2, h3⟩
  have orr : ∀ i (h : i < l.length), oR A n i = l[i] := fun i h => by
    have h4 : (oL A n l.length)[i]'(by rw [oL_len]; exact h) = oR A n i := oL_get _ _ _ _ _
    rw [← h4]
    have h5 := o l.length (Nat.le_refl _)
    rw [List.take_length] at h5
    simp only [h5]
  have k1 : oOk A n l.length := ⟨h1, h2, fun i hi => by
    rw [(e 24 (by unfold sc; omega)).2, orr i hi]
    exact h3 i hi⟩
  have k2 : jOk A n l.length := fun i hi => by
    rw [orr i hi, o i (by omega), jd_e e, (e 9 (by unfold sc; omega)).2, (e 13 (by unfold sc; omega)).2]
    exact hj i hi
  obtain ⟨g, h, q1, q2, q3⟩ := m_judge k1 k2
  have h5 := o l.length (Nat.le_refl _)
  rw [List.take_length] at h5
  rw [h5, gd_e e] at q1
  rw [h5, jd_e e] at q2
  refine ⟨_, q3, mEx_trans (mEx_mu (Or.inl rfl) g) (mEx_mu (Or.inr rfl) h), ?_, ?_⟩
  · intro r hr; rw [mu_ne _ _ (by decide), mu_same]; exact q1 r hr
  · intro r hr; rw [mu_same]; exact q2 r hr
theorem m_isOf {M A : mSt} (e : mEx sc M A) {r : Nat} (hr : r < 1000) (s o p : Int32) : fm_isOf A (Int32.ofNat r) s o p = some (b2 (M.2 9 r = s ∧ M.2 10 r = o ∧ M.2 11 r = p)) := by
  unfold fm_isOf fm_isOf_35 fm_isOf_36
  rw [ck_n hr (by omega), rd_e e (by decide) (by omega)]
  by_cases h1 : M.2 9 r = s
  · rw [if_pos h1, ck_n hr (by omega), rd_e e (by decide) (by omega)]
    by_cases h2 : M.2 10 r = o
    · rw [if_pos h2, ck_n hr (by omega), rd_e e (by decide) (by omega)]
      by_cases h3 : M.2 11 r = p
      · rw [if_pos h3, b2_t ⟨h1, h2, h3⟩]; rfl
      · rw [if_neg h3, b2_f (fun q => h3 q.2.2)]; rfl
    · rw [if_neg h2, b2_f (fun q => h2 q.2.1)]; rfl
  · rw [if_neg h1, b2_f (fun q => h1 q.1)]; rfl
theorem m_knew {M A : mSt} (e : mEx sc M A) {a b : Nat} (ha : a < 1000) (hb : b < 1000) : fm_knew A (Int32.ofNat a) (Int32.ofNat b) = some (b2 (Int32.ofNat (rM b) ≤ M.2 16 (4 * a + rN b))) := by
  have hn := rN_lt hb
  unfold fm_knew fm_knew_25
  rw [m_nodeOf hb, bd_s, show (4 : Int32) = Int32.ofNat 4 from rfl, jI_mul, jI_add, ck_n (by omega) (by omega), m_numberOf hb, bd_s, rd_e e (by decide) (by omega)]
  by_cases h : M.2 16 (4 * a + rN b) < Int32.ofNat (rM b)
  · rw [if_pos h, b2_f (Int32.not_le.mpr h)]; rfl
  · rw [if_neg h, b2_t (Int32.not_lt.mp h)]; rfl
theorem m_isBeforeL {M A : mSt} (e : mEx sc M A) (ht : tOk M) {a b : Nat} (ha : a < 1000) (hb : b < 1000) : fm_isBefore A (Int32.ofNat a) (Int32.ofNat b) = some (b2 (rK M a < rK M b)) := by
  have ht' : tOk A := fun r hr => by
    rw [(e 14 (by unfold sc; omega)).2, (e 15 (by unfold sc; omega)).2]; exact ht r hr
  rw [m_isBefore ht' ha hb, rK_e e]
/-- the values that were put -/
def inP (A : mSt) (L : List (Int32 × Int32)) : Prop := A.1 49 = Int32.ofNat L.length ∧ ∀ i (h : i < L.length), A.2 50 i = L[i].1 ∧ A.2 51 i = L[i].2
def wP : Nat → Prop := fun k => k = 49 ∨ k = 50 ∨ k = 51
theorem m_putV {A : mSt} {L : List (Int32 × Int32)} (h : inP A L) (hL : L.length < 1000) (x y : Int32) : ∃ B, fm_put A x y = some B ∧ mEx wP A B ∧ inP B (L ++ [(x, y)]) := by
  obtain ⟨h1, h2⟩ := h
  unfold fm_put
  have e1 : (wr A 50 (Int32.ofNat L.length) x).1 49 = Int32.ofNat L.length := h1
  have e2 : (wr (wr A 50 (Int32.ofNat L.length) x) 51 (Int32.ofNat L.length) y).1 49 = Int32.ofNat L.length := h1
  rw [h1, ck_n hL (by omega), lt_d, e1, ck_n hL (by omega), lt_d, e2, show (1 : Int32) = Int32.ofNat 1 from rfl, jI_add, lt_d]
  refine ⟨_, rfl, mEx_trans (mEx_trans (mEx_wr (Or.inr (Or.inl rfl)) _ _) (mEx_wr (Or.inr (Or.inr rfl)) _ _)) (mEx_pu (by unfold wP; omega) _), ?_, fun i hi => ?_⟩
  · rw [pu_s, List.length_append]; rfl
  · rw [List.length_append] at hi
    have hi' : i < L.length + 1 := hi
    rw [pu_2, wr_o _ _ _ (by decide), wr_s _ _ (by omega), wr_s _ _ (by omega), wr_o _ _ _ (by decide)]
    by_cases ei : i = L.length
    · subst ei
      rw [upd_s, upd_s]
      rw [List.getElem_append_right (Nat.le_refl _)]
      simp
    · rw [upd_o _ _ ei, upd_o _ _ ei, List.getElem_append_left (by omega)]
      exact h2 i (by omega)
theorem cat_get {L : List Nat} {k r j : Nat} (hk : k ≤ L.length) (hj : j < (L.take k ++ r :: L.drop k).length) : (j < k → ∃ h : j < L.length, (L.take k ++ r :: L.drop k)[j] = L[j]) ∧ (j = k → (L.take k ++ r :: L.drop k)[j] = r) ∧ (k < j → ∃ h : j - 1 < L.length, (L.take k ++ r :: L.drop k)[j] = L[j - 1]) := by
  have hlen : (L.take k).length = k := by rw [List.length_take]; omega
  have hlen2 : (L.take k ++ r :: L.drop k).length = L.length + 1 := by simp; omega
  refine ⟨fun h => ⟨by omega, ?_⟩, fun h => ?_, fun h => ⟨by omega, ?_⟩⟩
  · rw [List.getElem_append_left (by omega), List.getElem_take]
  · subst h
    rw [List.getElem_append_right (by omega)]
    simp [hlen]
  · rw [List.getElem_append_right (by omega)]
    simp only [hlen]
    obtain ⟨d, rfl⟩ : ∃ d, j = k + 1 + d := ⟨j - k - 1, by omega⟩
    simp only [show k + 1 + d - k = d + 1 by omega, List.getElem_cons_succ, List.getElem_drop, show k + 1 + d - 1 = k + d by omega]
def inR (A : mSt) (val : Nat → Int32) (L : List Nat) : Prop := inP A (L.map (fun r => (val r, Int32.ofNat r)))
theorem inR_iff {A : mSt} {val : Nat → Int32} {L : List Nat} : inR A val L ↔ A.1 49 = Int32.ofNat L.length ∧ ∀ i (h : i < L.length), A.2 50 i = val L[i] ∧ A.2 51 i = Int32.ofNat L[i] := by
  unfold inR inP
  simp
theorem m_putGo {M : mSt} (ht : tOk M) {val : Nat → Int32} {L : List Nat} {r : Nat} (hr : r < 1000) (hL : L.length < 1000) (hb : ∀ i (h : i < L.length), L[i] < 1000) (hs : sdl (rK M) L) : ∀ (k fu : Nat) (A : mSt), mEx sc M A → A.1 49 = Int32.ofNat (L.length + 1) → k ≤ L.length → k < fu → (∀ j (h : j < L.length), j < k → A.2 50 j = val L[j] ∧ A.2 51 j = Int32.ofNat L[j]) → (∀ j (h : j < L.length), k ≤ j → A.2 50 (j + 1) = val L[j] ∧ A.2 51 (j + 1) = Int32.ofNat L[j]) → (∀ j (h : j < L.length), k ≤ j → rK M r < rK M L[j]) → ∃ B, fm_putInOrder_13 fu A (val r) (Int32.ofNat r) (Int32.ofNat k) = some B ∧ mEx wP A B ∧ inR B val (ins (rK M) r L) := by
  have fin : ∀ (k : Nat) (A : mSt), A.1 49 = Int32.ofNat (L.length + 1) → k ≤ L.length → (∀ j (h : j < L.length), j < k → A.2 50 j = val L[j] ∧ A.2 51 j = Int32.ofNat L[j]) → (∀ j (h : j < L.length), k ≤ j → A.2 50 (j + 1) = val L[j] ∧ A.2 51 (j + 1) = Int32.ofNat L[j]) → (∀ j (h : j < L.length), k ≤ j → rK M r < rK M L[j]) → (∀ (h : k - 1 < L.length), 0 < k → rK M (L[k - 1]) ≤ rK M r) → ∃ B, fm_putInOrder_67 A (val r) (Int32.ofNat r) (Int32.ofNat k) = some B ∧ mEx wP A B ∧ inR B val (ins (rK M) r L) := by
    intro k A h1 hk h2 h3 h4 h5
    unfold fm_putInOrder_67
    rw [ck_n (by omega) (by omega), lt_d, ck_n (by omega) (by omega), lt_d]
    refine ⟨_, rfl, mEx_trans (mEx_wr (Or.inr (Or.inl rfl)) _ _) (mEx_wr (Or.inr (Or.inr rfl)) _ _), ?_⟩
    rw [ins_at k hs hk h4 h5, inR_iff]
    refine ⟨?_, fun i hi => ?_⟩
    · show A.1 49 = _
      rw [h1]; congr 1; simp; omega
    · obtain ⟨c1, c2, c3⟩ := cat_get (r := r) hk hi
      rw [wr_o _ _ _ (by decide), wr_s _ _ (by omega), wr_s _ _ (by omega), wr_o _ _ _ (by decide)]
      rcases Nat.lt_trichotomy i k with c | c | c
      · obtain ⟨q1, q2⟩ := c1 c
        rw [q2, upd_o _ _ (by omega), upd_o _ _ (by omega)]
        exact h2 i q1 c
      · rw [c2 c, c, upd_s, upd_s]; exact ⟨rfl, rfl⟩
      · obtain ⟨q1, q2⟩ := c3 c
        rw [q2, upd_o _ _ (by omega), upd_o _ _ (by omega)]
        have := h3 (i - 1) q1 (by omega)
        rwa [show i - 1 + 1 = i by omega] at this
  intro k
  induction k with
  | zero =>
    intro fu A e h1 hk hf h2 h3 h4
    obtain ⟨fu, rfl⟩ : ∃ q, fu = q + 1 := ⟨fu - 1, by omega⟩
    rw [fm_putInOrder_13, if_pos (by decide)]
    exact fin 0 A h1 hk h2 h3 h4 (fun _ h => absurd h (by omega))
  | succ k ih =>
    intro fu A e h1 hk hf h2 h3 h4
    obtain ⟨fu, rfl⟩ : ∃ q, fu = q + 1 := ⟨fu - 1, by omega⟩
    have hk' : k < L.length := by omega
    have hkk : Int32.ofNat (k + 1) - (1 : Int32) = Int32.ofNat k := by show Int32.ofNat (k + 1) - Int32.ofNat 1 = _; rw [jI_sub (by omega)]; rfl
    have hkm : Int32.ofNat (k + 1) + (-1 : Int32) = Int32.ofNat k := by rw [← hkk, Int32.sub_eq_add_neg]
    have hfr := (h2 k hk' (by omega)).2
    rw [fm_putInOrder_13, if_neg (jI_p (by omega) (by omega)), hkk, ck_n (by omega) (by omega), rd_n _ _ (by omega), hfr, m_isBeforeL e ht hr (hb k hk'), bd_s]
    by_cases hlt : rK M r < rK M L[k]
    · rw [b2_t hlt, if_neg n10, ck_n (by omega) (by omega), ck_n (by omega) (by omega), lt_d, ck_n (by omega) (by omega), ck_n (by omega) (by omega), lt_d, lt_d, hkm]
      have e1 : mEx wP A (wr (wr A 50 (Int32.ofNat (k + 1)) (rd A 50 (Int32.ofNat k))) 51 (Int32.ofNat (k + 1)) (rd (wr A 50 (Int32.ofNat (k + 1)) (rd A 50 (Int32.ofNat k))) 51 (Int32.ofNat k))) := mEx_trans (mEx_wr (Or.inr (Or.inl rfl)) _ _) (mEx_wr (Or.inr (Or.inr rfl)) _ _)
      obtain ⟨B, q1, q2, q3⟩ := ih fu _ (mEx_trans e (mEx_mono e1 (fun j hj => by unfold wP at hj; unfold sc; omega))) h1 (by omega) (by omega) (fun j hj hjk => by
        rw [wr_o _ _ _ (by decide), wr_s _ _ (by omega), wr_s _ _ (by omega), wr_o _ _ _ (by decide), upd_o _ _ (by omega), upd_o _ _ (by omega)]
        exact h2 j hj (by omega)) (fun j hj hjk => by
        rw [wr_o _ _ _ (by decide), wr_s _ _ (by omega), wr_s _ _ (by omega), wr_o _ _ _ (by decide)]
        by_cases ej : j = k
        · subst ej
          rw [upd_s, upd_s, rd_n _ _ (by omega), rd_n _ _ (by omega), wr_o _ _ _ (by decide)]
          exact h2 j hj (by omega)
        · rw [upd_o _ _ (by omega), upd_o _ _ (by omega)]
          exact h3 j hj (by omega)) (fun j hj hjk => by
        by_cases ej : j = k
        · subst ej; exact hlt
        · exact h4 j hj (by omega))
      exact ⟨B, q1, mEx_trans e1 q2, q3⟩
    · rw [b2_f hlt, if_pos rfl]
      exact fin (k + 1) A h1 hk h2 h3 h4 (fun h _ => Nat.not_lt.mp hlt)
theorem m_putInOrder {M A : mSt} (ht : tOk M) (e : mEx sc M A) {val : Nat → Int32} {L : List Nat} {r : Nat} (hr : r < 1000) (hL : L.length < 1000) (hb : ∀ i (h : i < L.length), L[i] < 1000) (hs : sdl (rK M) L) (h : inR A val L) : ∃ B, fm_putInOrder A (val r) (Int32.ofNat r) = some B ∧ mEx wP A B ∧ inR B val (ins (rK M) r L) := by
  obtain ⟨B, h1, h2, h3⟩ := m_putV h (by rw [List.length_map]; exact hL) (val r) (Int32.ofNat r)
  unfold fm_putInOrder
  rw [h1, bd_s, lt_d]
  have h4 : B.1 49 = Int32.ofNat (L.length + 1) := by rw [h3.1]; congr 1; simp
  have h5 : B.1 49 - 1 = Int32.ofNat L.length := by rw [h4]; show Int32.ofNat (L.length + 1) - Int32.ofNat 1 = _; rw [jI_sub (by omega)]; rfl
  rw [h5]
  obtain ⟨C, q1, q2, q3⟩ := m_putGo ht (val := val) hr hL hb hs L.length mFU B (mEx_trans e (mEx_mono h2 (fun j hj => by unfold wP at hj; unfold sc; omega))) h4 (Nat.le_refl _) (by unfold mFU; omega) (fun j hj _ => by
    have h6 := h3.2 j (by simp; omega)
    rw [List.getElem_append_left (by rw [List.length_map]; exact hj), List.getElem_map] at h6
    exact h6) (fun j hj hjk => absurd hj (by omega)) (fun j hj hjk => absurd hj (by omega))
  exact ⟨C, q1, mEx_trans h2 q2, q3⟩

-- part 32: the reference's latest, several, sum, shares
def bst (K : Nat → Nat) (l : List Nat) : Option Nat := (srt K l).getLast?
theorem gl_cons (e : Nat) (L : List Nat) : (e :: L).getLast? = match L.getLast? with | none => some e | some q => some q := by
  cases L with
  | nil => rfl
  | cons a L =>
    rw [List.getLast?_cons_cons]
    cases h : (a :: L).getLast? with
    | none => simp at h
    | some q => rfl
theorem ins_last {K : Nat → Nat} {r : Nat} {L : List Nat} (hs : sdl K L) (hn : ∀ q ∈ L, K q ≠ K r) : (ins K r L).getLast? = match L.getLast? with | none => some r | some q => if K q < K r then some r else some q := by
  induction L with
  | nil => rfl
  | cons e L ih =>
    have hp := List.pairwise_cons.mp hs
    rw [ins_cons]
    by_cases h : K r < K e
    · rw [if_pos h, gl_cons r (e :: L)]
      cases hq : (e :: L).getLast? with
      | none => simp at hq
      | some q =>
        have hm := List.mem_of_getLast? hq
        have : K e ≤ K q := by
          rcases List.mem_cons.mp hm with rfl | hm
          · exact Nat.le_refl _
          · exact hp.1 q hm
        show some q = if K q < K r then some r else some q
        rw [if_neg (by omega)]
    · rw [if_neg h, gl_cons, ih hp.2 (fun q hq => hn q (List.mem_cons_of_mem _ hq)), gl_cons e L]
      cases hq : L.getLast? with
      | none =>
        have := hn e List.mem_cons_self
        show some r = if K e < K r then some r else some e
        rw [if_pos (by omega)]
      | some q =>
        show (match (if K q < K r then some r else some q) with | none => some e | some q => some q) = if K q < K r then some r else some q
        split
        · rename_i h2; split at h2 <;> cases h2
        · rename_i h2; exact h2.symm
theorem bst_app {K : Nat → Nat} {l : List Nat} {r : Nat} (hn : ∀ q ∈ l, K q ≠ K r) : bst K (l ++ [r]) = match bst K l with | none => some r | some q => if K q < K r then some r else some q := by
  unfold bst
  rw [srt_app]
  exact ins_last (sdl_srt K l) (fun q hq => hn q (mem_srt.mp hq))
theorem rev_find (L : List Nat) (p : Nat → Bool) : L.reverse.find? p = (L.filter p).getLast? := by
  rw [← List.head?_filter, List.filter_reverse, List.head?_reverse]
/-- rows that are told apart by their keys -/
def kInj (M : mSt) (l : List Nat) : Prop := l.Nodup ∧ ∀ a ∈ l, ∀ b ∈ l, rK M a = rK M b → a = b
theorem kInj_take {M : mSt} {l : List Nat} (h : kInj M l) (u : Nat) : kInj M (l.take u) := ⟨h.1.sublist (List.take_sublist u l), fun a ha b hb => h.2 a (List.mem_of_mem_take ha) b (List.mem_of_mem_take hb)⟩
theorem bst_step {M : mSt} {l : List Nat} (h : kInj M l) (P : Nat → Bool) {i : Nat} (hi : i < l.length) : bst (rK M) ((l.take (i + 1)).filter P) = if P l[i] then (match bst (rK M) ((l.take i).filter P) with | none => some l[i] | some q => if rK M q < rK M l[i] then some l[i] else some q) else bst (rK M) ((l.take i).filter P) := by
  rw [take_app hi, List.filter_append]
  cases hp : P l[i]
  · simp [hp]
  · have e : List.filter P [l[i]] = [l[i]] := by simp [hp]
    rw [e, bst_app]
    · rfl
    · intro q hq hk
      have hq1 := (List.mem_filter.mp hq).1
      have := h.2 q (List.mem_of_mem_take hq1) l[i] (List.getElem_mem hi) hk
      rw [this] at hq1
      exact absurd ((mem_take h.1 hi).mp hq1) (by omega)
theorem bst_mem {K : Nat → Nat} {l : List Nat} {r : Nat} (h : bst K l = some r) : r ∈ l := mem_srt.mp (List.mem_of_getLast? h)
abbrev isO (M : mSt) (s o p : Int32) (r : Nat) : Prop := M.2 9 r = s ∧ M.2 10 r = o ∧ M.2 11 r = p
section R
variable {M A : mSt} {n : Nat} {l : List Nat}
/-- what a look stands on: the rows, what is good -/
def rdy (M A : mSt) (n : Nat) (l : List Nat) : Prop := mEx sc M A ∧ lAt M n l ∧ tOk M ∧ kInj M l ∧ ∀ r, r < 1000 → A.2 47 r = b2 (gd M l r = true)
theorem rdy_put {B : mSt} (h : rdy M A n l) (e : mEx wP A B) : rdy M B n l := by
  obtain ⟨h1, h2, h3, h4, h5⟩ := h
  refine ⟨mEx_trans h1 (mEx_mono e (fun j hj => by unfold wP at hj; unfold sc; omega)), h2, h3, h4, fun r hr => ?_⟩
  rw [(e 47 (by unfold wP; omega)).2]; exact h5 r hr
theorem rI_ne {o : Option Nat} : rI o = -1 ↔ o = none ∨ ∃ r, o = some r ∧ Int32.ofNat r = -1 := by
  cases o with
  | none => simp [rI]
  | some r => simp [rI]
theorem lFu (h : rdy M A n l) : l.length < mFU := Nat.lt_of_le_of_lt h.2.1.2.1 (by decide)
def ltB (M : mSt) (l : List Nat) (o p : Int32) : Option Nat := bst (rK M) (l.filter (fun r => decide (M.2 9 r = 1 ∧ M.2 10 r = o ∧ M.2 11 r = p) && gd M l r))
theorem m_latest (h : rdy M A n l) (hP : inP A []) (o p : Int32) : ∃ B, fm_latest A (Int32.ofNat n) (Int32.ofNat l.length) o p = some B ∧ mEx wP A B ∧ inP B [(match ltB M l o p with | none => 0 | some r => M.2 12 r, rI (ltB M l o p))] := by
  obtain ⟨h1, h2, h3, h4, h5⟩ := h
  have hle := h2.2.1
  unfold fm_latest
  obtain ⟨b, q1, q2⟩ := loopI (σ := Option Nat) (β := mSt) (N := l.length) (F := fun k st i => fm_latest_6 k A (Int32.ofNat n) (Int32.ofNat l.length) o p (rI st) (Int32.ofNat i)) (Q := fun B => mEx wP A B ∧ inP B [(match ltB M l o p with | none => 0 | some r => M.2 12 r, rI (ltB M l o p))])
    (fun i st => st = bst (rK M) ((l.take i).filter (fun r => decide (M.2 9 r = 1 ∧ M.2 10 r = o ∧ M.2 11 r = p) && gd M l r)))
    (fun k st hI => by
      rw [List.take_length] at hI
      have hI' : st = ltB M l o p := hI
      show ∃ b, fm_latest_6 (k + 1) A _ _ o p (rI st) (Int32.ofNat l.length) = some b ∧ _
      rw [fm_latest_6, if_pos ((jI_le (by omega) (by omega)).mpr (Nat.le_refl _))]
      unfold fm_latest_89
      rw [← hI']
      cases st with
      | none =>
        obtain ⟨B, e1, e2, e3⟩ := m_putV hP (by simp) 0 (-1)
        rw [if_pos (show rI none = -1 from rfl), show rI none = -1 from rfl, e1, bd_s]
        exact ⟨B, rfl, e2, e3⟩
      | some r =>
        have hr : r < 1000 := by
          have := (List.mem_filter.mp (bst_mem hI.symm)).1
          obtain ⟨i, hi, rfl⟩ := List.mem_iff_getElem.mp this
          exact (h2.2.2 i hi).2
        obtain ⟨B, e1, e2, e3⟩ := m_putV hP (by simp) (M.2 12 r) (Int32.ofNat r)
        rw [if_neg (show ¬ rI (some r) = -1 from jI_ne (by omega))]
        show ∃ b, ck (Int32.ofNat r) 1000 (bd (fm_put A (rd A 12 (Int32.ofNat r)) (Int32.ofNat r)) _) = _ ∧ _
        rw [ck_n hr (by omega), rd_e h1 (by decide) (by omega), e1, bd_s]
        exact ⟨B, rfl, e2, e3⟩)
    (fun k st i hi hI => Or.inl (by
      have hr := (h2.2.2 i hi).2
      show ∃ st', _ ∧ fm_latest_6 (k + 1) A _ _ o p (rI st) (Int32.ofNat i) = _
      rw [fm_latest_6, if_neg (fun q => absurd ((jI_le (by omega) (by omega)).mp q) (by omega)), m_rowAtL h1 h2 hi, bd_s, m_isOf h1 hr, bd_s, bst_step h4 _ hi]
      unfold fm_latest_65 fm_latest_61 fm_latest_65
      have hone : Int32.ofNat i + 1 = Int32.ofNat (i + 1) := jI_add i 1
      simp only [lt_d, hone]
      by_cases hO : M.2 9 l[i] = 1 ∧ M.2 10 l[i] = o ∧ M.2 11 l[i] = p
      · rw [b2_t hO, if_neg n10, ck_n hr (by omega), rd_n _ _ (by omega), h5 _ hr, decide_eq_true hO, Bool.true_and]
        cases hg : gd M l l[i]
        · rw [if_pos bFn]
          exact ⟨st, by rw [if_neg (by simp)]; exact hI, rfl⟩
        · rw [if_neg bTn, if_pos rfl, ← hI]
          cases st with
          | none => exact ⟨some l[i], rfl, by rw [if_pos (show rI none = -1 from rfl)]; rfl⟩
          | some q =>
            have hq : q < 1000 := by
              have := List.mem_of_mem_take (List.mem_filter.mp (bst_mem hI.symm)).1
              obtain ⟨j, hj, rfl⟩ := List.mem_iff_getElem.mp this
              exact (h2.2.2 j hj).2
            rw [if_neg (show ¬ rI (some q) = -1 from jI_ne (by omega)), show rI (some q) = Int32.ofNat q from rfl, m_isBeforeL h1 h3 hq hr, bd_s]
            by_cases hlt : rK M q < rK M l[i]
            · rw [b2_t hlt, if_neg n10]
              exact ⟨some l[i], by show _ = if _ then _ else _; rw [if_pos hlt], rfl⟩
            · rw [b2_f hlt, if_pos rfl]
              exact ⟨some q, by show _ = if _ then _ else _; rw [if_neg hlt], rfl⟩
      · rw [b2_f hO, if_pos rfl, decide_eq_false hO, Bool.false_and, if_neg (by simp)]
        exact ⟨st, hI, rfl⟩))
    l.length 0 mFU none (by omega) (Nat.lt_of_le_of_lt hle (by decide)) rfl
  exact ⟨b, q1, q2⟩
/-- the puts that none knew, as the reference finds them -/
def knP (M : mSt) (l : List Nat) (o p : Int32) (r t : Nat) : Bool := decide (t ≠ r → isO M 2 o p t → gd M l t = true → ¬ Int32.ofNat (rM r) ≤ M.2 16 (4 * t + rN r))
def svQ (M : mSt) (l : List Nat) (o p : Int32) (r : Nat) : Bool := decide (isO M 2 o p r) && (gd M l r && l.all (knP M l o p r))
theorem loopE {σ β : Type} {F : Nat → σ → Nat → Option β} {N : Nat} {R : Option β} (I : Nat → σ → Prop)
    (he : ∀ n st, I N st → F (n + 1) st N = R)
    (hs : ∀ n st i, i < N → I i st → (∃ st', I (i + 1) st' ∧ F (n + 1) st i = F n st' (i + 1)) ∨ F (n + 1) st i = R) :
    ∀ (j i fu : Nat) (st : σ), i + j = N → j < fu → I i st → F fu st i = R := by
  intro j
  induction j with
  | zero =>
    intro i fu st hi hf h
    obtain ⟨fu, rfl⟩ : ∃ q, fu = q + 1 := ⟨fu - 1, by omega⟩
    have e : i = N := by omega
    subst e
    exact he fu st h
  | succ j ih =>
    intro i fu st hi hf h
    obtain ⟨fu, rfl⟩ : ∃ q, fu = q + 1 := ⟨fu - 1, by omega⟩
    rcases hs fu st i (by omega) h with ⟨st', h1, h2⟩ | h1
    · rw [h2]; exact ih (i + 1) fu st' (by omega) (by omega) h1
    · exact h1
theorem m_severalIn (h : rdy M A n l) (o p : Int32) {r : Nat} (hr : r < 1000) (g3 : mSt → Int32 → Int32 → Int32 → Int32 → Int32 → Option mSt) (v5 : Int32) : fm_several_50 g3 mFU A (Int32.ofNat n) (Int32.ofNat l.length) o p v5 (Int32.ofNat r) 1 0 = fm_several_124 g3 A (Int32.ofNat n) (Int32.ofNat l.length) o p v5 (Int32.ofNat r) (b2 (l.all (knP M l o p r) = true)) := by
  obtain ⟨h1, h2, h3, h4, h5⟩ := h
  have hle := h2.2.1
  have key := loopE (σ := Bool) (β := mSt) (N := l.length) (F := fun k st i => fm_several_50 g3 k A (Int32.ofNat n) (Int32.ofNat l.length) o p v5 (Int32.ofNat r) (b2 (st = true)) (Int32.ofNat i)) (R := fm_several_124 g3 A (Int32.ofNat n) (Int32.ofNat l.length) o p v5 (Int32.ofNat r) (b2 (l.all (knP M l o p r) = true)))
    (fun i st => (st = true ∧ (l.take i).all (knP M l o p r) = true) ∨ (st = false ∧ l.all (knP M l o p r) = false))
    (fun k st hI => by
      show fm_several_50 g3 (k + 1) A _ _ o p v5 (Int32.ofNat r) (b2 (st = true)) (Int32.ofNat l.length) = _
      rw [fm_several_50, if_pos ((jI_le (by omega) (by omega)).mpr (Nat.le_refl _))]
      rcases hI with ⟨e1, e2⟩ | ⟨e1, e2⟩
      · rw [List.take_length] at e2; rw [e1, e2]
      · rw [e1, e2])
    (fun k st i hi hI => by
      show (∃ st', _ ∧ fm_several_50 g3 (k + 1) A _ _ o p v5 (Int32.ofNat r) (b2 (st = true)) (Int32.ofNat i) = _) ∨ fm_several_50 g3 (k + 1) A _ _ o p v5 (Int32.ofNat r) (b2 (st = true)) (Int32.ofNat i) = _
      rw [fm_several_50, if_neg (fun q => absurd ((jI_le (by omega) (by omega)).mp q) (by omega))]
      rcases hI with ⟨e1, e2⟩ | ⟨e1, e2⟩
      · left
        have hri := (h2.2.2 i hi).2
        rw [e1, if_neg (by decide), m_rowAtL h1 h2 hi, bd_s]
        unfold fm_several_111 fm_several_116
        have hone : Int32.ofNat i + 1 = Int32.ofNat (i + 1) := jI_add i 1
        simp only [lt_d, hone]
        have ok : knP M l o p r l[i] = true → ∃ st' : Bool, ((st' = true ∧ (l.take (i + 1)).all (knP M l o p r) = true) ∨ (st' = false ∧ l.all (knP M l o p r) = false)) ∧ fm_several_50 g3 k A (Int32.ofNat n) (Int32.ofNat l.length) o p v5 (Int32.ofNat r) 1 (Int32.ofNat (i + 1)) = fm_several_50 g3 k A (Int32.ofNat n) (Int32.ofNat l.length) o p v5 (Int32.ofNat r) (b2 (st' = true)) (Int32.ofNat (i + 1)) := fun hk => ⟨true, Or.inl ⟨rfl, by rw [take_app hi, List.all_append, e2, Bool.true_and]; simp [hk]⟩, rfl⟩
        by_cases c1 : l[i] = r
        · rw [if_pos (by rw [c1])]
          exact ok (by unfold knP; exact decide_eq_true (fun q => absurd c1 q))
        · rw [if_neg (fun q => c1 ((jI_inj (by omega) (by omega)).mp q)), m_isOf h1 hri, bd_s]
          by_cases c2 : isO M 2 o p l[i]
          · rw [b2_t c2, if_neg n10, ck_n hri (by omega), rd_n _ _ (by omega), h5 _ hri]
            cases c3 : gd M l l[i]
            · rw [if_pos bFn]
              exact ok (by unfold knP; exact decide_eq_true (fun _ _ q => by rw [c3] at q; cases q))
            · rw [if_neg bTn, m_knew h1 hri hr, bd_s]
              by_cases c4 : Int32.ofNat (rM r) ≤ M.2 16 (4 * l[i] + rN r)
              · rw [b2_t c4, if_neg n10]
                refine ⟨false, Or.inr ⟨rfl, ?_⟩, rfl⟩
                rw [List.all_eq_false]
                exact ⟨l[i], List.getElem_mem hi, by unfold knP; simpa [c1, c3, c4] using c2⟩
              · rw [b2_f c4, if_pos rfl]
                exact ok (by unfold knP; exact decide_eq_true (fun _ _ _ q => c4 q))
          · rw [b2_f c2, if_pos rfl]
            exact ok (by unfold knP; exact decide_eq_true (fun _ q => absurd q c2))
      · right
        rw [e1, if_pos (by decide), e2])
    l.length 0 mFU true (by omega) (Nat.lt_of_le_of_lt hle (by decide)) (Or.inl ⟨rfl, rfl⟩)
  exact key
theorem flt_lt (h2 : lAt M n l) (P : Nat → Bool) {i : Nat} : ∀ j (hj : j < (srt (rK M) ((l.take i).filter P)).length), (srt (rK M) ((l.take i).filter P))[j] < 1000 := fun j hj => by
  have := List.mem_of_mem_take (List.mem_filter.mp (mem_srt.mp (List.getElem_mem hj))).1
  obtain ⟨k, hk, e⟩ := List.mem_iff_getElem.mp this
  rw [← e]; exact (h2.2.2 k hk).2
theorem flt_len (h2 : lAt M n l) (P : Nat → Bool) {i : Nat} (hi : i < l.length) : (srt (rK M) ((l.take i).filter P)).length < 1000 := by
  rw [len_srt]
  have h := List.length_filter_le P (l.take i)
  rw [List.length_take] at h
  have := h2.2.1
  omega
theorem srt_step (P : Nat → Bool) {i : Nat} (hi : i < l.length) : srt (rK M) ((l.take (i + 1)).filter P) = if P l[i] then ins (rK M) l[i] (srt (rK M) ((l.take i).filter P)) else srt (rK M) ((l.take i).filter P) := by
  rw [take_app hi, List.filter_append]
  cases hp : P l[i]
  · simp [hp]
  · have e : List.filter P [l[i]] = [l[i]] := by simp [hp]
    rw [e, srt_app]; rfl
theorem m_several (h : rdy M A n l) (hP : inP A []) (o p : Int32) : ∃ B, fm_several A (Int32.ofNat n) (Int32.ofNat l.length) o p = some B ∧ mEx wP A B ∧ inR B (M.2 12) (srt (rK M) (l.filter (svQ M l o p))) := by
  have h0 := h
  obtain ⟨h1, h2, h3, h4, h5⟩ := h
  have hle := h2.2.1
  unfold fm_several
  obtain ⟨b, q1, q2⟩ := loopI (σ := mSt) (β := mSt) (N := l.length) (F := fun k B i => fm_several_3 k B (Int32.ofNat n) (Int32.ofNat l.length) o p (Int32.ofNat i)) (Q := fun B => mEx wP A B ∧ inR B (M.2 12) (srt (rK M) (l.filter (svQ M l o p))))
    (fun i B => mEx wP A B ∧ inR B (M.2 12) (srt (rK M) ((l.take i).filter (svQ M l o p))))
    (fun k B hI => by
      rw [List.take_length] at hI
      exact ⟨B, by
        show fm_several_3 (k + 1) B _ _ o p (Int32.ofNat l.length) = _
        rw [fm_several_3, if_pos ((jI_le (by omega) (by omega)).mpr (Nat.le_refl _))], hI⟩)
    (fun k B i hi hI => Or.inl (by
      have hB := rdy_put h0 hI.1
      obtain ⟨b1, b2', b3, b4, b5⟩ := hB
      have hr := (h2.2.2 i hi).2
      show ∃ st', _ ∧ fm_several_3 (k + 1) B _ _ o p (Int32.ofNat i) = _
      rw [fm_several_3, if_neg (fun q => absurd ((jI_le (by omega) (by omega)).mp q) (by omega)), m_rowAtL b1 h2 hi, bd_s, m_isOf b1 hr, bd_s, srt_step _ hi]
      have hone : Int32.ofNat i + 1 = Int32.ofNat (i + 1) := jI_add i 1
      have skip : ∀ C, fm_several_142 (fm_several_3 k) C (Int32.ofNat n) (Int32.ofNat l.length) o p (Int32.ofNat i) = fm_several_3 k C (Int32.ofNat n) (Int32.ofNat l.length) o p (Int32.ofNat (i + 1)) := fun C => by
        unfold fm_several_142; rw [lt_d, hone]
      have no : svQ M l o p l[i] = false → (mEx wP A B ∧ inR B (M.2 12) (if svQ M l o p l[i] = true then ins (rK M) l[i] (srt (rK M) ((l.take i).filter (svQ M l o p))) else srt (rK M) ((l.take i).filter (svQ M l o p)))) := fun hq => by
        rw [hq]; exact hI
      by_cases c1 : isO M 2 o p l[i]
      · rw [b2_t c1, if_neg n10, ck_n hr (by omega), rd_n _ _ (by omega), b5 _ hr]
        cases c2 : gd M l l[i]
        · rw [if_pos bFn, skip]
          exact ⟨B, no (by unfold svQ; rw [c2]; simp), rfl⟩
        · rw [if_neg bTn, m_severalIn ⟨b1, b2', b3, b4, b5⟩ o p hr]
          unfold fm_several_124
          cases c3 : l.all (knP M l o p l[i])
          · rw [if_pos bFn, skip]
            exact ⟨B, no (by unfold svQ; rw [c3]; simp), rfl⟩
          · rw [if_neg bTn, ck_n hr (by omega), rd_e b1 (by decide) (by omega)]
            obtain ⟨C, e1, e2, e3⟩ := m_putInOrder h3 b1 (val := M.2 12) hr (flt_len h2 _ hi) (flt_lt h2 _) (sdl_srt _ _) hI.2
            rw [e1, bd_s, skip]
            have hq : svQ M l o p l[i] = true := by unfold svQ; rw [c2, c3, decide_eq_true c1]; rfl
            rw [hq]
            exact ⟨C, ⟨mEx_trans hI.1 e2, e3⟩, rfl⟩
      · rw [b2_f c1, if_pos rfl, skip]
        exact ⟨B, no (by unfold svQ; rw [decide_eq_false c1]; rfl), rfl⟩))
    l.length 0 mFU A (by omega) (Nat.lt_of_le_of_lt hle (by decide)) ⟨mEx_refl _ _, hP⟩
  exact ⟨b, q1, q2⟩
def smB (M : mSt) (l : List Nat) (o p : Int32) : Int32 := (l.filter (fun r => decide (isO M 3 o p r) && gd M l r)).foldl (fun s r => s + M.2 12 r) 0
theorem m_sum (h : rdy M A n l) (hP : inP A []) (o p : Int32) : ∃ B, fm_sum A (Int32.ofNat n) (Int32.ofNat l.length) o p = some B ∧ mEx wP A B ∧ inP B [(smB M l o p, -1)] := by
  obtain ⟨h1, h2, h3, h4, h5⟩ := h
  have hle := h2.2.1
  unfold fm_sum
  obtain ⟨b, q1, q2⟩ := loopI (σ := Int32) (β := mSt) (N := l.length) (F := fun k st i => fm_sum_6 k A (Int32.ofNat n) (Int32.ofNat l.length) o p st (Int32.ofNat i)) (Q := fun B => mEx wP A B ∧ inP B [(smB M l o p, -1)])
    (fun i st => st = ((l.take i).filter (fun r => decide (isO M 3 o p r) && gd M l r)).foldl (fun s r => s + M.2 12 r) 0)
    (fun k st hI => by
      rw [List.take_length] at hI
      have hI' : st = smB M l o p := hI
      show ∃ b, fm_sum_6 (k + 1) A _ _ o p st (Int32.ofNat l.length) = some b ∧ _
      obtain ⟨B, e1, e2, e3⟩ := m_putV hP (by simp) st (-1)
      rw [fm_sum_6, if_pos ((jI_le (by omega) (by omega)).mpr (Nat.le_refl _)), e1, bd_s, ← hI']
      exact ⟨B, rfl, e2, e3⟩)
    (fun k st i hi hI => Or.inl (by
      have hr := (h2.2.2 i hi).2
      show ∃ st', _ ∧ fm_sum_6 (k + 1) A _ _ o p st (Int32.ofNat i) = _
      rw [fm_sum_6, if_neg (fun q => absurd ((jI_le (by omega) (by omega)).mp q) (by omega)), m_rowAtL h1 h2 hi, bd_s, m_isOf h1 hr, bd_s, take_app hi, List.filter_append, List.foldl_append, ← hI]
      unfold fm_sum_56
      have hone : Int32.ofNat i + 1 = Int32.ofNat (i + 1) := jI_add i 1
      simp only [lt_d, hone]
      by_cases c1 : isO M 3 o p l[i]
      · rw [b2_t c1, if_neg n10, ck_n hr (by omega), rd_n _ _ (by omega), h5 _ hr]
        cases c2 : gd M l l[i]
        · rw [if_pos bFn]
          exact ⟨st, by simp [c2], rfl⟩
        · rw [if_neg bTn, ck_n hr (by omega), rd_e h1 (by decide) (by omega)]
          exact ⟨_, by simp [c2, c1], rfl⟩
      · rw [b2_f c1, if_pos rfl]
        exact ⟨st, by rw [List.filter_cons, decide_eq_false c1]; rfl, rfl⟩))
    l.length 0 mFU 0 (by omega) (Nat.lt_of_le_of_lt hle (by decide)) rfl
  exact ⟨b, q1, q2⟩
/-- what a row of a part of shares adds, as the reference reckons -/
def shD (M : mSt) (q r : Nat) : Int32 := (if rN r = q then (if M.2 9 r = 4 then M.2 12 r else if M.2 9 r = 5 ∨ M.2 9 r = 6 then - M.2 12 r else 0) else 0) + (if M.2 9 r = 6 ∧ M.2 13 r = Int32.ofNat q then M.2 12 r else 0)
def shB (M : mSt) (l : List Nat) (o p : Int32) (q : Nat) : Int32 := (l.filter (fun r => decide (M.2 10 r = o ∧ M.2 11 r = p))).foldl (fun s r => s + shD M q r) 0
theorem m_sharesIn (h : rdy M A n l) (o p : Int32) {q : Nat} (hq : q < 4) (g6 : mSt → Int32 → Int32 → Int32 → Int32 → Int32 → Int32 → Option mSt) (v5 : Int32) : fm_shares_18 g6 mFU A (Int32.ofNat n) (Int32.ofNat l.length) o p v5 (Int32.ofNat q) 0 0 = bd (fm_put A (shB M l o p q) (-1)) fun B => g6 B (Int32.ofNat n) (Int32.ofNat l.length) o p (v5 + shB M l o p q) (Int32.ofNat (q + 1)) := by
  obtain ⟨h1, h2, h3, h4, h5⟩ := h
  have hle := h2.2.1
  have key := loopE (σ := Int32) (β := mSt) (N := l.length) (F := fun k st i => fm_shares_18 g6 k A (Int32.ofNat n) (Int32.ofNat l.length) o p v5 (Int32.ofNat q) st (Int32.ofNat i)) (R := bd (fm_put A (shB M l o p q) (-1)) fun B => g6 B (Int32.ofNat n) (Int32.ofNat l.length) o p (v5 + shB M l o p q) (Int32.ofNat (q + 1)))
    (fun i st => st = ((l.take i).filter (fun r => decide (M.2 10 r = o ∧ M.2 11 r = p))).foldl (fun s r => s + shD M q r) 0)
    (fun k st hI => by
      rw [List.take_length] at hI
      have hI' : st = shB M l o p q := hI
      show fm_shares_18 g6 (k + 1) A _ _ o p v5 (Int32.ofNat q) st (Int32.ofNat l.length) = _
      have hone : Int32.ofNat q + 1 = Int32.ofNat (q + 1) := jI_add q 1
      rw [fm_shares_18, if_pos ((jI_le (by omega) (by omega)).mpr (Nat.le_refl _)), hI']
      simp only [lt_d, hone])
    (fun k st i hi hI => Or.inl (by
      have hr := (h2.2.2 i hi).2
      have hn4 := rN_lt hr
      show ∃ st', _ ∧ fm_shares_18 g6 (k + 1) A _ _ o p v5 (Int32.ofNat q) st (Int32.ofNat i) = _
      rw [fm_shares_18, if_neg (fun q => absurd ((jI_le (by omega) (by omega)).mp q) (by omega)), m_rowAtL h1 h2 hi, bd_s, take_app hi, List.filter_append, List.foldl_append, ← hI]
      have hone : Int32.ofNat i + 1 = Int32.ofNat (i + 1) := jI_add i 1
      unfold fm_shares_92 fm_shares_115 fm_shares_137 fm_shares_173
      simp only [lt_d, hone, ck_n hr (show l[i] < 2147483648 by omega), rd_e h1 (show 9 < 47 by decide) (show l[i] < 2147483648 by omega), rd_e h1 (show 10 < 47 by decide) (show l[i] < 2147483648 by omega), rd_e h1 (show 11 < 47 by decide) (show l[i] < 2147483648 by omega), rd_e h1 (show 12 < 47 by decide) (show l[i] < 2147483648 by omega), rd_e h1 (show 13 < 47 by decide) (show l[i] < 2147483648 by omega), m_nodeOf hr, bd_s, jI_inj (show rN l[i] < 2147483648 by omega) (show q < 2147483648 by omega)]
      by_cases c1 : M.2 10 l[i] = o
      · by_cases c2 : M.2 11 l[i] = p
        · rw [if_pos c1, if_pos c2]
          have hf : List.filter (fun r => decide (M.2 10 r = o ∧ M.2 11 r = p)) [l[i]] = [l[i]] := by simp [c1, c2]
          rw [hf]
          refine ⟨st + shD M q l[i], rfl, ?_⟩
          unfold shD
          by_cases d4 : M.2 9 l[i] = 4
          · have d5 : ¬ M.2 9 l[i] = 5 := by rw [d4]; decide
            have d6 : ¬ M.2 9 l[i] = 6 := by rw [d4]; decide
            by_cases dq : rN l[i] = q
            · simp [d4, dq, Int32.add_zero]
            · simp [d4, dq, Int32.add_zero]
          · by_cases d5 : M.2 9 l[i] = 5
            · by_cases dq : rN l[i] = q
              · simp [d5, dq, Int32.add_zero, Int32.sub_eq_add_neg]
              · simp [d5, dq, Int32.add_zero]
            · by_cases d6 : M.2 9 l[i] = 6
              · by_cases dq : rN l[i] = q
                · by_cases dw : M.2 13 l[i] = Int32.ofNat q
                  · simp [d6, dq, dw, Int32.sub_eq_add_neg, Int32.add_assoc]
                  · simp [d6, dq, dw, Int32.add_zero, Int32.sub_eq_add_neg]
                · by_cases dw : M.2 13 l[i] = Int32.ofNat q
                  · simp [d6, dq, dw, Int32.zero_add]
                  · simp [d6, dq, dw, Int32.add_zero]
              · by_cases dq : rN l[i] = q <;> simp [d4, d5, d6, dq, Int32.add_zero]
        · rw [if_pos c1, if_neg c2]
          exact ⟨st, by simp [c2], rfl⟩
      · rw [if_neg c1]
        exact ⟨st, by simp [c1], rfl⟩))
    l.length 0 mFU 0 (by omega) (Nat.lt_of_le_of_lt hle (by decide)) rfl
  exact key
theorem m_shares (h : rdy M A n l) (hP : inP A []) (o p : Int32) : ∃ B, fm_shares A (Int32.ofNat n) (Int32.ofNat l.length) o p = some B ∧ mEx wP A B ∧ inP B [(shB M l o p 0, -1), (shB M l o p 1, -1), (shB M l o p 2, -1), (shB M l o p 3, -1), (shB M l o p 0 + shB M l o p 1 + shB M l o p 2 + shB M l o p 3, -1)] := by
  unfold fm_shares
  have st : ∀ (q k : Nat) (v5 : Int32) (B : mSt), q < 4 → mEx wP A B → fm_shares_6 (k + 1) B (Int32.ofNat n) (Int32.ofNat l.length) o p v5 (Int32.ofNat q) = bd (fm_put B (shB M l o p q) (-1)) fun C => fm_shares_6 k C (Int32.ofNat n) (Int32.ofNat l.length) o p (v5 + shB M l o p q) (Int32.ofNat (q + 1)) := fun q k v5 B hq e => by
    rw [fm_shares_6, if_neg (jK 4 4 (b := q) rfl (by omega) (by decide))]
    exact m_sharesIn (rdy_put h e) o p hq _ v5
  obtain ⟨B0, a1, a2, a3⟩ := m_putV hP (by simp) (shB M l o p 0) (-1)
  obtain ⟨B1, b1, b2', b3⟩ := m_putV a3 (by simp) (shB M l o p 1) (-1)
  obtain ⟨B2, c1, c2, c3⟩ := m_putV b3 (by simp) (shB M l o p 2) (-1)
  obtain ⟨B3, d1, d2, d3⟩ := m_putV c3 (by simp) (shB M l o p 3) (-1)
  obtain ⟨B4, f1, f2, f3⟩ := m_putV d3 (by simp) (shB M l o p 0 + shB M l o p 1 + shB M l o p 2 + shB M l o p 3) (-1)
  have s0 : fm_shares_6 mFU A (Int32.ofNat n) (Int32.ofNat l.length) o p 0 0 = _ := st 0 199999 0 A (by decide) (mEx_refl _ _)
  rw [s0, a1, bd_s]
  rw [show (199999 : Nat) = 199998 + 1 from rfl, st 1 _ _ B0 (by decide) a2, b1, bd_s]
  rw [show (199998 : Nat) = 199997 + 1 from rfl, st 2 _ _ B1 (by decide) (mEx_trans a2 b2'), c1, bd_s]
  rw [show (199997 : Nat) = 199996 + 1 from rfl, st 3 _ _ B2 (by decide) (mEx_trans (mEx_trans a2 b2') c2), d1, bd_s]
  rw [show (199996 : Nat) = 199995 + 1 from rfl, fm_shares_6, if_pos (by decide), Int32.zero_add, f1, bd_s]
  exact ⟨B4, rfl, mEx_trans (mEx_trans (mEx_trans (mEx_trans a2 b2') c2) d2) f2, f3⟩
end R

-- part 33: the reference's sets and maps
section R
variable {M A : mSt} {n : Nat} {l : List Nat}
theorem lAt_mem (h2 : lAt M n l) {r : Nat} (h : r ∈ l) : r < 1000 := by
  obtain ⟨k, hk, e⟩ := List.mem_iff_getElem.mp h
  rw [← e]; exact (h2.2.2 k hk).2
def hoT (M : mSt) (l : List Nat) (r t : Nat) : Bool := decide (isO M 8 (M.2 10 r) (M.2 11 r) t → M.2 12 t = M.2 12 r → gd M l t = true → ¬ Int32.ofNat (rM r) ≤ M.2 16 (4 * t + rN r))
def hoP (M : mSt) (l : List Nat) (r : Nat) : Bool := gd M l r && l.all (hoT M l r)
theorem m_holds (h : rdy M A n l) {r : Nat} (hr : r < 1000) : fm_holds A (Int32.ofNat n) (Int32.ofNat l.length) (Int32.ofNat r) = some (b2 (hoP M l r = true)) := by
  obtain ⟨h1, h2, h3, h4, h5⟩ := h
  have hle := h2.2.1
  unfold fm_holds hoP
  rw [ck_n hr (by omega), rd_n _ _ (by omega), h5 r hr]
  cases c0 : gd M l r
  · rw [if_pos bFn, b2_f (by simp)]; rfl
  · rw [if_neg bTn]
    have key := loopE (σ := Unit) (β := Int32) (N := l.length) (F := fun k _ i => fm_holds_14 A k (Int32.ofNat n) (Int32.ofNat l.length) (Int32.ofNat r) (Int32.ofNat i)) (R := some (b2 ((true && l.all (hoT M l r)) = true)))
      (fun i _ => (l.take i).all (hoT M l r) = true)
      (fun k _ hI => by
        rw [List.take_length] at hI
        show fm_holds_14 A (k + 1) _ _ _ (Int32.ofNat l.length) = _
        rw [fm_holds_14, if_pos ((jI_le (by omega) (by omega)).mpr (Nat.le_refl _)), hI]; rfl)
      (fun k _ i hi hI => by
        have hri := (h2.2.2 i hi).2
        have hone : Int32.ofNat i + 1 = Int32.ofNat (i + 1) := jI_add i 1
        show (∃ st', _ ∧ fm_holds_14 A (k + 1) _ _ _ (Int32.ofNat i) = _) ∨ fm_holds_14 A (k + 1) _ _ _ (Int32.ofNat i) = _
        rw [fm_holds_14, if_neg (fun q => absurd ((jI_le (by omega) (by omega)).mp q) (by omega)), m_rowAtL h1 h2 hi, bd_s, ck_n hr (by omega), ck_n hr (by omega), rd_e h1 (by decide) (by omega), rd_e h1 (by decide) (by omega), m_isOf h1 hri, bd_s]
        unfold fm_holds_90
        simp only [lt_d, hone]
        have ok : hoT M l r l[i] = true → (l.take (i + 1)).all (hoT M l r) = true := fun hk => by rw [take_app hi, List.all_append, hI, Bool.true_and]; simp [hk]
        by_cases c1 : isO M 8 (M.2 10 r) (M.2 11 r) l[i]
        · rw [b2_t c1, if_neg n10, ck_n hri (by omega), ck_n hr (by omega), rd_e h1 (by decide) (by omega), rd_e h1 (by decide) (by omega)]
          by_cases c2 : M.2 12 l[i] = M.2 12 r
          · rw [if_pos c2, ck_n hri (by omega), rd_n _ _ (by omega), h5 _ hri]
            cases c3 : gd M l l[i]
            · rw [if_pos bFn]
              exact Or.inl ⟨(), ok (by unfold hoT; exact decide_eq_true (fun _ _ q => by rw [c3] at q; cases q)), rfl⟩
            · rw [if_neg bTn, m_knew h1 hri hr, bd_s]
              by_cases c4 : Int32.ofNat (rM r) ≤ M.2 16 (4 * l[i] + rN r)
              · rw [b2_t c4, if_neg n10]
                right
                have : l.all (hoT M l r) = false := by
                  rw [List.all_eq_false]
                  exact ⟨l[i], List.getElem_mem hi, by unfold hoT; simpa [c2, c3, c4] using c1⟩
                rw [this]; rfl
              · rw [b2_f c4, if_pos rfl]
                exact Or.inl ⟨(), ok (by unfold hoT; exact decide_eq_true (fun _ _ _ q => c4 q)), rfl⟩
          · rw [if_neg c2]
            exact Or.inl ⟨(), ok (by unfold hoT; exact decide_eq_true (fun _ q => absurd q c2)), rfl⟩
        · rw [b2_f c1, if_pos rfl]
          exact Or.inl ⟨(), ok (by unfold hoT; exact decide_eq_true (fun q => absurd q c1)), rfl⟩)
      l.length 0 mFU () (by omega) (Nat.lt_of_le_of_lt hle (by decide)) rfl
    exact key
def kvL (f : Nat → Option Nat) (n : Nat) : List (Int32 × Int32) := (List.range n).filterMap (fun x => (f x).map (fun r => (Int32.ofNat x, Int32.ofNat r)))
theorem kvL_succ (f : Nat → Option Nat) (n : Nat) : kvL f (n + 1) = kvL f n ++ (match f n with | none => [] | some r => [(Int32.ofNat n, Int32.ofNat r)]) := by
  unfold kvL
  rw [List.range_succ, List.filterMap_append]
  congr 1
  cases h : f n <;> simp [h]
theorem kvL_len (f : Nat → Option Nat) (n : Nat) : (kvL f n).length ≤ n := by
  have := List.length_filterMap_le (fun x => (f x).map (fun r => (Int32.ofNat x, Int32.ofNat r))) (List.range n)
  rwa [List.length_range] at this
/-- the last enter by which x is in the set, as the reference finds it -/
def stP (M : mSt) (l : List Nat) (o p : Int32) (x r : Nat) : Bool := decide (isO M 7 o p r) && (decide (M.2 12 r = Int32.ofNat x) && hoP M l r)
def stB (M : mSt) (l : List Nat) (o p : Int32) (x : Nat) : Option Nat := bst (rK M) (l.filter (stP M l o p x))
theorem m_setIn (h : rdy M A n l) (o p : Int32) (x : Nat) (g3 : mSt → Int32 → Int32 → Int32 → Int32 → Int32 → Option mSt) : fm_set_16 g3 mFU A (Int32.ofNat n) (Int32.ofNat l.length) o p (Int32.ofNat x) (-1) 0 = (match stB M l o p x with | none => fm_set_109 g3 A (Int32.ofNat n) (Int32.ofNat l.length) o p (Int32.ofNat x) | some r => bd (fm_put A (Int32.ofNat x) (Int32.ofNat r)) fun B => fm_set_109 g3 B (Int32.ofNat n) (Int32.ofNat l.length) o p (Int32.ofNat x)) := by
  have h0 := h
  obtain ⟨h1, h2, h3, h4, h5⟩ := h
  have hle := h2.2.1
  have key := loopE (σ := Option Nat) (β := mSt) (N := l.length) (F := fun k st i => fm_set_16 g3 k A (Int32.ofNat n) (Int32.ofNat l.length) o p (Int32.ofNat x) (rI st) (Int32.ofNat i)) (R := (match stB M l o p x with | none => fm_set_109 g3 A (Int32.ofNat n) (Int32.ofNat l.length) o p (Int32.ofNat x) | some r => bd (fm_put A (Int32.ofNat x) (Int32.ofNat r)) fun B => fm_set_109 g3 B (Int32.ofNat n) (Int32.ofNat l.length) o p (Int32.ofNat x)))
    (fun i st => st = bst (rK M) ((l.take i).filter (stP M l o p x)))
    (fun k st hI => by
      rw [List.take_length] at hI
      have hI' : st = stB M l o p x := hI
      show fm_set_16 g3 (k + 1) A _ _ o p (Int32.ofNat x) (rI st) (Int32.ofNat l.length) = _
      rw [fm_set_16, if_pos ((jI_le (by omega) (by omega)).mpr (Nat.le_refl _)), ← hI']
      cases st with
      | none => rw [if_pos (show rI none = -1 from rfl)]
      | some r =>
        have hr := lAt_mem h2 (List.mem_filter.mp (bst_mem hI.symm)).1
        rw [if_neg (show ¬ rI (some r) = -1 from jI_ne (by omega))]; rfl)
    (fun k st i hi hI => Or.inl (by
      have hr := (h2.2.2 i hi).2
      show ∃ st', _ ∧ fm_set_16 g3 (k + 1) A _ _ o p (Int32.ofNat x) (rI st) (Int32.ofNat i) = _
      rw [fm_set_16, if_neg (fun q => absurd ((jI_le (by omega) (by omega)).mp q) (by omega)), m_rowAtL h1 h2 hi, bd_s, m_isOf h1 hr, bd_s, bst_step h4 _ hi]
      unfold fm_set_85 fm_set_89
      have hone : Int32.ofNat i + 1 = Int32.ofNat (i + 1) := jI_add i 1
      simp only [lt_d, hone]
      have no : stP M l o p x l[i] = false → st = if stP M l o p x l[i] = true then (match bst (rK M) ((l.take i).filter (stP M l o p x)) with | none => some l[i] | some q => if rK M q < rK M l[i] then some l[i] else some q) else bst (rK M) ((l.take i).filter (stP M l o p x)) := fun hq => by
        rw [hq, if_neg (by simp)]; exact hI
      by_cases hO : isO M 7 o p l[i]
      · rw [b2_t hO, if_neg n10, ck_n hr (by omega), rd_e h1 (by decide) (by omega)]
        by_cases hx : M.2 12 l[i] = Int32.ofNat x
        · rw [if_pos hx, m_holds h0 hr, bd_s]
          cases hg : hoP M l l[i]
          · rw [if_pos bFn]
            exact ⟨st, no (by unfold stP; rw [hg]; simp), rfl⟩
          · have hp : stP M l o p x l[i] = true := by unfold stP; rw [hg, decide_eq_true hx, decide_eq_true hO]; rfl
            rw [if_neg bTn, if_pos hp, ← hI]
            cases st with
            | none => exact ⟨some l[i], rfl, by rw [if_pos (show rI none = -1 from rfl)]; rfl⟩
            | some q =>
              have hq : q < 1000 := lAt_mem h2 (List.mem_of_mem_take (List.mem_filter.mp (bst_mem hI.symm)).1)
              rw [if_neg (show ¬ rI (some q) = -1 from jI_ne (by omega)), show rI (some q) = Int32.ofNat q from rfl, m_isBeforeL h1 h3 hq hr, bd_s]
              by_cases hlt : rK M q < rK M l[i]
              · rw [b2_t hlt, if_neg n10]
                exact ⟨some l[i], by show _ = if _ then _ else _; rw [if_pos hlt], rfl⟩
              · rw [b2_f hlt, if_pos rfl]
                exact ⟨some q, by show _ = if _ then _ else _; rw [if_neg hlt], rfl⟩
        · rw [if_neg hx]
          exact ⟨st, no (by unfold stP; rw [decide_eq_false hx]; simp), rfl⟩
      · rw [b2_f hO, if_pos rfl]
        exact ⟨st, no (by unfold stP; rw [decide_eq_false hO]; rfl), rfl⟩))
    l.length 0 mFU none (by omega) (Nat.lt_of_le_of_lt hle (by decide)) rfl
  exact key
theorem m_set (h : rdy M A n l) (hP : inP A []) (o p : Int32) : ∃ B, fm_set A (Int32.ofNat n) (Int32.ofNat l.length) o p = some B ∧ mEx wP A B ∧ inP B (kvL (stB M l o p) 64) := by
  unfold fm_set
  obtain ⟨b, q1, q2⟩ := loopI (σ := mSt) (β := mSt) (N := 64) (F := fun k B i => fm_set_3 k B (Int32.ofNat n) (Int32.ofNat l.length) o p (Int32.ofNat i)) (Q := fun B => mEx wP A B ∧ inP B (kvL (stB M l o p) 64))
    (fun i B => mEx wP A B ∧ inP B (kvL (stB M l o p) i))
    (fun k B hI => ⟨B, by
      show fm_set_3 (k + 1) B _ _ o p (Int32.ofNat 64) = _
      rw [fm_set_3]; exact if_pos (by decide), hI⟩)
    (fun k B i hi hI => Or.inl (by
      show ∃ st', _ ∧ fm_set_3 (k + 1) B _ _ o p (Int32.ofNat i) = _
      have hone : Int32.ofNat i + 1 = Int32.ofNat (i + 1) := jI_add i 1
      have hlen := kvL_len (stB M l o p) i
      rw [fm_set_3, if_neg (jK 64 64 (b := i) rfl (by omega) (by decide)), m_setIn (rdy_put h hI.1) o p i, kvL_succ]
      unfold fm_set_109
      simp only [lt_d, hone]
      cases hs : stB M l o p i with
      | none => exact ⟨B, by rw [List.append_nil]; exact hI, rfl⟩
      | some r =>
        obtain ⟨C, e1, e2, e3⟩ := m_putV hI.2 (by omega) (Int32.ofNat i) (Int32.ofNat r)
        exact ⟨C, ⟨mEx_trans hI.1 e2, e3⟩, by show bd (fm_put B _ _) _ = _; rw [e1, bd_s]⟩))
    64 0 mFU A (by omega) (by decide) ⟨mEx_refl _ _, hP⟩
  exact ⟨b, q1, q2⟩
/-- the last bind or unbind of a key, as the reference finds it -/
def kyP (M : mSt) (l : List Nat) (o p : Int32) (x r : Nat) : Bool := decide (isO M 15 o p r ∨ isO M 16 o p r) && (decide (M.2 12 r = Int32.ofNat x) && gd M l r)
def kyB (M : mSt) (l : List Nat) (o p : Int32) (x : Nat) : Option Nat := bst (rK M) (l.filter (kyP M l o p x))
def kyC (M : mSt) (l : List Nat) (o p : Int32) (x : Nat) : Option Nat := match kyB M l o p x with | none => none | some r => if M.2 9 r = 15 then some r else none
theorem m_keysIn (h : rdy M A n l) (o p : Int32) (x : Nat) (g3 : mSt → Int32 → Int32 → Int32 → Int32 → Int32 → Option mSt) : fm_keys_16 g3 mFU A (Int32.ofNat n) (Int32.ofNat l.length) o p (Int32.ofNat x) (-1) 0 = (match kyC M l o p x with | none => fm_keys_146 g3 A (Int32.ofNat n) (Int32.ofNat l.length) o p (Int32.ofNat x) | some r => bd (fm_put A (Int32.ofNat x) (Int32.ofNat r)) fun B => fm_keys_146 g3 B (Int32.ofNat n) (Int32.ofNat l.length) o p (Int32.ofNat x)) := by
  have h0 := h
  obtain ⟨h1, h2, h3, h4, h5⟩ := h
  have hle := h2.2.1
  have key := loopE (σ := Option Nat) (β := mSt) (N := l.length) (F := fun k st i => fm_keys_16 g3 k A (Int32.ofNat n) (Int32.ofNat l.length) o p (Int32.ofNat x) (rI st) (Int32.ofNat i)) (R := (match kyC M l o p x with | none => fm_keys_146 g3 A (Int32.ofNat n) (Int32.ofNat l.length) o p (Int32.ofNat x) | some r => bd (fm_put A (Int32.ofNat x) (Int32.ofNat r)) fun B => fm_keys_146 g3 B (Int32.ofNat n) (Int32.ofNat l.length) o p (Int32.ofNat x)))
    (fun i st => st = bst (rK M) ((l.take i).filter (kyP M l o p x)))
    (fun k st hI => by
      rw [List.take_length] at hI
      have hI' : kyB M l o p x = st := hI.symm
      show fm_keys_16 g3 (k + 1) A _ _ o p (Int32.ofNat x) (rI st) (Int32.ofNat l.length) = _
      unfold kyC
      rw [fm_keys_16, if_pos ((jI_le (by omega) (by omega)).mpr (Nat.le_refl _)), hI']
      cases st with
      | none => rw [if_pos (show rI none = -1 from rfl)]
      | some r =>
        have hr := lAt_mem h2 (List.mem_filter.mp (bst_mem hI.symm)).1
        rw [if_neg (show ¬ rI (some r) = -1 from jI_ne (by omega)), show rI (some r) = Int32.ofNat r from rfl, ck_n hr (by omega), rd_e h1 (by decide) (by omega)]
        by_cases c : M.2 9 r = 15
        · rw [if_pos c]; simp only [c, if_true]
        · rw [if_neg c]; simp only [c, if_false])
    (fun k st i hi hI => Or.inl (by
      have hr := (h2.2.2 i hi).2
      show ∃ st', _ ∧ fm_keys_16 g3 (k + 1) A _ _ o p (Int32.ofNat x) (rI st) (Int32.ofNat i) = _
      rw [fm_keys_16, if_neg (fun q => absurd ((jI_le (by omega) (by omega)).mp q) (by omega)), m_rowAtL h1 h2 hi, bd_s, m_isOf h1 hr, bd_s, m_isOf h1 hr, bd_s, bst_step h4 _ hi]
      have hone : Int32.ofNat i + 1 = Int32.ofNat (i + 1) := jI_add i 1
      have end0 : fm_keys_85 g3 (fm_keys_16 g3 k) A (Int32.ofNat n) (Int32.ofNat l.length) o p (Int32.ofNat x) (rI st) (Int32.ofNat i) (Int32.ofNat l[i]) = fm_keys_16 g3 k A (Int32.ofNat n) (Int32.ofNat l.length) o p (Int32.ofNat x) (rI st) (Int32.ofNat (i + 1)) := by
        unfold fm_keys_85 fm_keys_86 fm_keys_114
        rw [if_pos rfl, lt_d, hone]
      have no : kyP M l o p x l[i] = false → st = if kyP M l o p x l[i] = true then (match bst (rK M) ((l.take i).filter (kyP M l o p x)) with | none => some l[i] | some q => if rK M q < rK M l[i] then some l[i] else some q) else bst (rK M) ((l.take i).filter (kyP M l o p x)) := fun hq => by
        rw [hq, if_neg (by simp)]; exact hI
      have mid : (isO M 15 o p l[i] ∨ isO M 16 o p l[i]) → ∃ st' : Option Nat, (st' = if kyP M l o p x l[i] = true then (match bst (rK M) ((l.take i).filter (kyP M l o p x)) with | none => some l[i] | some q => if rK M q < rK M l[i] then some l[i] else some q) else bst (rK M) ((l.take i).filter (kyP M l o p x))) ∧ fm_keys_59 g3 (fm_keys_16 g3 k) A (Int32.ofNat n) (Int32.ofNat l.length) o p (Int32.ofNat x) (rI st) (Int32.ofNat i) (Int32.ofNat l[i]) = fm_keys_16 g3 k A (Int32.ofNat n) (Int32.ofNat l.length) o p (Int32.ofNat x) (rI st') (Int32.ofNat (i + 1)) := fun hO => by
        unfold fm_keys_59
        rw [ck_n hr (by omega), rd_e h1 (by decide) (by omega)]
        by_cases hx : M.2 12 l[i] = Int32.ofNat x
        · rw [if_pos hx, ck_n hr (by omega), rd_n _ _ (by omega), h5 _ hr]
          cases hg : gd M l l[i]
          · rw [if_pos bFn, end0]
            exact ⟨st, no (by unfold kyP; rw [hg]; simp), rfl⟩
          · have hp : kyP M l o p x l[i] = true := by unfold kyP; rw [hg, decide_eq_true hx, decide_eq_true hO]; rfl
            rw [if_neg bTn, if_pos hp, ← hI]
            unfold fm_keys_86 fm_keys_110 fm_keys_114
            simp only [lt_d, hone]
            rw [if_neg (by decide)]
            cases st with
            | none => exact ⟨some l[i], rfl, by rw [if_pos (show rI none = -1 from rfl)]; rfl⟩
            | some q =>
              have hq : q < 1000 := lAt_mem h2 (List.mem_of_mem_take (List.mem_filter.mp (bst_mem hI.symm)).1)
              rw [if_neg (show ¬ rI (some q) = -1 from jI_ne (by omega)), show rI (some q) = Int32.ofNat q from rfl, m_isBeforeL h1 h3 hq hr, bd_s]
              by_cases hlt : rK M q < rK M l[i]
              · rw [b2_t hlt, if_neg n10]
                exact ⟨some l[i], by show _ = if _ then _ else _; rw [if_pos hlt], rfl⟩
              · rw [b2_f hlt, if_pos rfl]
                exact ⟨some q, by show _ = if _ then _ else _; rw [if_neg hlt], rfl⟩
        · rw [if_neg hx, end0]
          exact ⟨st, no (by unfold kyP; rw [decide_eq_false hx]; simp), rfl⟩
      by_cases hO : isO M 15 o p l[i]
      · rw [b2_t hO, if_neg n10]
        exact mid (Or.inl hO)
      · rw [b2_f hO, if_pos rfl]
        by_cases hO2 : isO M 16 o p l[i]
        · rw [b2_t hO2, if_neg n10]
          exact mid (Or.inr hO2)
        · rw [b2_f hO2, if_pos rfl, end0]
          exact ⟨st, no (by unfold kyP; rw [decide_eq_false (fun q => q.elim hO hO2)]; rfl), rfl⟩))
    l.length 0 mFU none (by omega) (Nat.lt_of_le_of_lt hle (by decide)) rfl
  exact key
theorem m_keys (h : rdy M A n l) (hP : inP A []) (o p : Int32) : ∃ B, fm_keys A (Int32.ofNat n) (Int32.ofNat l.length) o p = some B ∧ mEx wP A B ∧ inP B (kvL (kyC M l o p) 64) := by
  unfold fm_keys
  obtain ⟨b, q1, q2⟩ := loopI (σ := mSt) (β := mSt) (N := 64) (F := fun k B i => fm_keys_3 k B (Int32.ofNat n) (Int32.ofNat l.length) o p (Int32.ofNat i)) (Q := fun B => mEx wP A B ∧ inP B (kvL (kyC M l o p) 64))
    (fun i B => mEx wP A B ∧ inP B (kvL (kyC M l o p) i))
    (fun k B hI => ⟨B, by
      show fm_keys_3 (k + 1) B _ _ o p (Int32.ofNat 64) = _
      rw [fm_keys_3]; exact if_pos (by decide), hI⟩)
    (fun k B i hi hI => Or.inl (by
      show ∃ st', _ ∧ fm_keys_3 (k + 1) B _ _ o p (Int32.ofNat i) = _
      have hone : Int32.ofNat i + 1 = Int32.ofNat (i + 1) := jI_add i 1
      have hlen := kvL_len (kyC M l o p) i
      rw [fm_keys_3, if_neg (jK 64 64 (b := i) rfl (by omega) (by decide)), m_keysIn (rdy_put h hI.1) o p i, kvL_succ]
      unfold fm_keys_146
      simp only [lt_d, hone]
      cases hs : kyC M l o p i with
      | none => exact ⟨B, by rw [List.append_nil]; exact hI, rfl⟩
      | some r =>
        obtain ⟨C, e1, e2, e3⟩ := m_putV hI.2 (by omega) (Int32.ofNat i) (Int32.ofNat r)
        exact ⟨C, ⟨mEx_trans hI.1 e2, e3⟩, by show bd (fm_put B _ _) _ = _; rw [e1, bd_s]⟩))
    64 0 mFU A (by omega) (by decide) ⟨mEx_refl _ _, hP⟩
  exact ⟨b, q1, q2⟩
end R

-- part 34: the reference's texts
def insA (t r : Nat) : List Nat → List Nat
  | [] => [r]
  | e :: L => if e = t then e :: r :: L else e :: insA t r L
/-- the line of inserts: one goes right behind its w, or ahead of all -/
def txS (M : mSt) (Ln : List Nat) (r : Nat) : List Nat := match rOf (M.2 13 r) with | none => r :: Ln | some t => insA t r Ln
def txL (M : mSt) (L : List Nat) : List Nat := L.foldl (txS M) []
theorem insA_at {t r : Nat} : ∀ {L : List Nat} {k : Nat} (hk : k < L.length), L[k] = t → (∀ j (h : j < k), L[j]'(by omega) ≠ t) → insA t r L = L.take (k + 1) ++ r :: L.drop (k + 1) := by
  intro L
  induction L with
  | nil => intro k hk; exact absurd hk (by simp)
  | cons e L ih =>
    intro k hk h1 h2
    unfold insA
    cases k with
    | zero => rw [if_pos (show e = t from h1)]; rfl
    | succ k =>
      rw [if_neg (show ¬ e = t from h2 0 (by omega)), ih (k := k) (by simp at hk; omega) h1 (fun j hj => h2 (j + 1) (by omega))]
      rfl
theorem insA_perm {t r : Nat} {L : List Nat} : (insA t r L).Perm (r :: L) := by
  induction L with
  | nil => exact List.Perm.refl _
  | cons e L ih =>
    unfold insA
    split
    · exact List.Perm.swap r e L
    · exact (List.Perm.cons e ih).trans (List.Perm.swap r e L)
theorem txS_perm (M : mSt) (Ln : List Nat) (r : Nat) : (txS M Ln r).Perm (r :: Ln) := by
  unfold txS
  cases rOf (M.2 13 r) with
  | none => exact List.Perm.refl _
  | some t => exact insA_perm
theorem txL_app (M : mSt) (L : List Nat) (r : Nat) : txL M (L ++ [r]) = txS M (txL M L) r := by unfold txL; rw [List.foldl_append]; rfl
theorem txL_perm (M : mSt) (L : List Nat) : (txL M L).Perm L := by
  have key : ∀ (L acc : List Nat), (L.foldl (txS M) acc).Perm (acc ++ L) := by
    intro L
    induction L with
    | nil => intro acc; rw [List.append_nil]; exact List.Perm.refl _
    | cons r L ih =>
      intro acc
      refine (ih (txS M acc r)).trans ?_
      refine ((txS_perm M acc r).append_right L).trans ?_
      rw [List.cons_append]
      exact List.perm_middle.symm
  exact key L []
theorem txL_mem {M : mSt} {L : List Nat} {r : Nat} : r ∈ txL M L ↔ r ∈ L := (txL_perm M L).mem_iff
theorem txL_len (M : mSt) (L : List Nat) : (txL M L).length = L.length := (txL_perm M L).length_eq
/-- of the inserts: w is 0 or names one that stands earlier in the order -/
def txOk (M : mSt) (L : List Nat) : Prop := ∀ k (h : k < L.length), L[k] < 1000 ∧ ((M.2 13 L[k] = 0) ∨ ∃ t, rOf (M.2 13 L[k]) = some t ∧ t ∈ L.take k)
/-- erased at a node: some good erase has its name -/
def erP (M : mSt) (l : List Nat) (r t : Nat) : Bool := decide (M.2 9 t = 10) && (decide (M.2 13 t = Int32.ofNat (rNm r)) && gd M l t)
def tvP (M : mSt) (l : List Nat) (r : Nat) : Bool := gd M l r && !(l.any (erP M l r))
def wT : Nat → Prop := fun k => k = 49 ∨ k = 50 ∨ k = 51 ∨ k = 52 ∨ k = 53
def inL (A : mSt) (L : List Nat) : Prop := A.1 52 = Int32.ofNat L.length ∧ ∀ i (h : i < L.length), A.2 53 i = Int32.ofNat L[i]
theorem rOf_0 : rOf 0 = none := by decide
section R
variable {M A : mSt} {n : Nat} {l : List Nat}
theorem rdy_w {B : mSt} {W : Nat → Prop} (h : rdy M A n l) (e : mEx W A B) (hW : ∀ k, W k → 47 < k) : rdy M B n l := by
  obtain ⟨h1, h2, h3, h4, h5⟩ := h
  refine ⟨mEx_trans h1 (mEx_mono e (fun j hj => by have := hW j hj; unfold sc; omega)), h2, h3, h4, fun r hr => ?_⟩
  rw [(e 47 (fun q => absurd (hW 47 q) (by omega))).2]; exact h5 r hr
theorem m_isErased (h : rdy M A n l) {r : Nat} (hr : r < 1000) : fm_isErased A (Int32.ofNat n) (Int32.ofNat l.length) (Int32.ofNat r) = some (b2 (l.any (erP M l r) = true)) := by
  obtain ⟨h1, h2, h3, h4, h5⟩ := h
  have hle := h2.2.1
  unfold fm_isErased
  have key := loopE (σ := Unit) (β := Int32) (N := l.length) (F := fun k _ i => fm_isErased_3 A k (Int32.ofNat n) (Int32.ofNat l.length) (Int32.ofNat r) (Int32.ofNat i)) (R := some (b2 (l.any (erP M l r) = true)))
    (fun i _ => (l.take i).any (erP M l r) = false)
    (fun k _ hI => by
      rw [List.take_length] at hI
      show fm_isErased_3 A (k + 1) _ _ _ (Int32.ofNat l.length) = _
      rw [fm_isErased_3, if_pos ((jI_le (by omega) (by omega)).mpr (Nat.le_refl _)), hI]; rfl)
    (fun k _ i hi hI => by
      have hri := (h2.2.2 i hi).2
      have hone : Int32.ofNat i + 1 = Int32.ofNat (i + 1) := jI_add i 1
      show (∃ st', _ ∧ fm_isErased_3 A (k + 1) _ _ _ (Int32.ofNat i) = _) ∨ fm_isErased_3 A (k + 1) _ _ _ (Int32.ofNat i) = _
      rw [fm_isErased_3, if_neg (fun q => absurd ((jI_le (by omega) (by omega)).mp q) (by omega)), m_rowAtL h1 h2 hi, bd_s, ck_n hri (by omega), rd_e h1 (by decide) (by omega)]
      unfold fm_isErased_56
      simp only [lt_d, hone]
      have ok : erP M l r l[i] = false → (l.take (i + 1)).any (erP M l r) = false := fun hk => by rw [take_app hi, List.any_append, hI, Bool.false_or]; simp [hk]
      by_cases c1 : M.2 9 l[i] = 10
      · rw [if_pos c1, ck_n hri (by omega), m_nameOf hr, bd_s, rd_e h1 (by decide) (by omega)]
        by_cases c2 : M.2 13 l[i] = Int32.ofNat (rNm r)
        · rw [if_pos c2, ck_n hri (by omega), rd_n _ _ (by omega), h5 _ hri]
          cases c3 : gd M l l[i]
          · rw [if_pos bFn]
            exact Or.inl ⟨(), ok (by unfold erP; rw [c3]; simp), rfl⟩
          · rw [if_neg bTn]
            right
            have : l.any (erP M l r) = true := List.any_eq_true.mpr ⟨l[i], List.getElem_mem hi, by unfold erP; rw [c3, decide_eq_true c1, decide_eq_true c2]; rfl⟩
            rw [this]; rfl
        · rw [if_neg c2]
          exact Or.inl ⟨(), ok (by unfold erP; rw [decide_eq_false c2]; simp), rfl⟩
      · rw [if_neg c1]
        exact Or.inl ⟨(), ok (by unfold erP; rw [decide_eq_false c1]; rfl), rfl⟩)
    l.length 0 mFU () (by omega) (Nat.lt_of_le_of_lt hle (by decide)) rfl
  exact key
/-- the last stage: what stands of the line is put -/
theorem m_text203 (h : rdy M A n l) {L : List Nat} (hL : inL A L) (hb : ∀ r ∈ L, r < 1000) (hlen : L.length ≤ 1000) (hP : A.1 49 = 0) : ∃ B, fm_text_203 mFU A (Int32.ofNat n) (Int32.ofNat l.length) 0 = some B ∧ mEx wP A B ∧ inR B (M.2 12) (L.filter (tvP M l)) := by
  obtain ⟨b, q1, q2⟩ := loopI (σ := mSt) (β := mSt) (N := L.length) (F := fun k B i => fm_text_203 k B (Int32.ofNat n) (Int32.ofNat l.length) (Int32.ofNat i)) (Q := fun B => mEx wP A B ∧ inR B (M.2 12) (L.filter (tvP M l)))
    (fun i B => mEx wP A B ∧ inR B (M.2 12) ((L.take i).filter (tvP M l)))
    (fun k B hI => ⟨B, by
      show fm_text_203 (k + 1) B _ _ (Int32.ofNat L.length) = _
      have e52 : B.1 52 = Int32.ofNat L.length := by rw [(hI.1 52 (by unfold wP; omega)).1]; exact hL.1
      rw [fm_text_203, e52, if_pos ((jI_le (by omega) (by omega)).mpr (Nat.le_refl _))], by rw [List.take_length] at hI; exact hI⟩)
    (fun k B i hi hI => Or.inl (by
      have hB := rdy_put h hI.1
      obtain ⟨b1, b2', b3, b4, b5⟩ := hB
      have hr : L[i] < 1000 := hb _ (List.getElem_mem hi)
      have e52 : B.1 52 = Int32.ofNat L.length := by rw [(hI.1 52 (by unfold wP; omega)).1]; exact hL.1
      have e53 : B.2 53 i = Int32.ofNat L[i] := by rw [(hI.1 53 (by unfold wP; omega)).2]; exact hL.2 i hi
      have hone : Int32.ofNat i + 1 = Int32.ofNat (i + 1) := jI_add i 1
      show ∃ st', _ ∧ fm_text_203 (k + 1) B _ _ (Int32.ofNat i) = _
      rw [fm_text_203, e52, if_neg (fun q => absurd ((jI_le (by omega) (by omega)).mp q) (by omega)), ck_n (by omega) (by omega), rd_n _ _ (by omega), e53, ck_n hr (by omega), rd_n _ _ (by omega), b5 _ hr, take_app hi, List.filter_append]
      unfold fm_text_266
      simp only [lt_d, hone]
      have no : tvP M l L[i] = false → mEx wP A B ∧ inR B (M.2 12) (List.filter (tvP M l) (List.take i L) ++ List.filter (tvP M l) [L[i]]) := fun hq => by
        have : List.filter (tvP M l) [L[i]] = [] := by simp [hq]
        rw [this, List.append_nil]; exact hI
      cases c1 : gd M l L[i]
      · rw [if_pos bFn]
        exact ⟨B, no (by unfold tvP; rw [c1]; rfl), rfl⟩
      · rw [if_neg bTn, ck_n (by omega) (by omega), m_isErased ⟨b1, b2', b3, b4, b5⟩ hr, bd_s]
        cases c2 : l.any (erP M l L[i])
        · rw [if_pos bFn, ck_n (by omega) (by omega), ck_n hr (by omega), ck_n (by omega) (by omega), rd_e b1 (by decide) (by omega)]
          have hq : tvP M l L[i] = true := by unfold tvP; rw [c1, c2]; rfl
          have hf : List.filter (tvP M l) [L[i]] = [L[i]] := by simp [hq]
          obtain ⟨C, e1, e2, e3⟩ := m_putV hI.2 (by
            rw [List.length_map]
            have := List.length_filter_le (tvP M l) (L.take i)
            rw [List.length_take] at this
            omega) (M.2 12 L[i]) (Int32.ofNat L[i])
          rw [e1, bd_s, hf]
          refine ⟨C, ⟨mEx_trans hI.1 e2, ?_⟩, rfl⟩
          unfold inR
          rw [List.map_append]; exact e3
        · rw [if_neg bTn]
          exact ⟨B, no (by unfold tvP; rw [c1, c2]; rfl), rfl⟩))
    L.length 0 mFU A (by omega) (Nat.lt_of_le_of_lt hlen (by decide)) ⟨mEx_refl _ _, by rw [inR_iff]; exact ⟨hP, fun i hi => absurd hi (by simp)⟩⟩
  exact ⟨b, q1, q2⟩
/-- shifting the line up from place at -/
theorem m_text136 {L : List Nat} {at' r : Nat} (hat : at' ≤ L.length) (hL : L.length < 1000) (hr : r < 1000) {k5 : Nat} (hk5 : k5 < 1000) (g54 : mSt → Int32 → Int32 → Int32 → Option mSt) (v1 v2 : Int32) : ∀ (d fu : Nat) (B : mSt), at' + d ≤ L.length → d < fu → B.1 52 = Int32.ofNat L.length → B.2 51 k5 = Int32.ofNat r → (∀ j (h : j < L.length), j < at' + d → B.2 53 j = Int32.ofNat L[j]) → (∀ j (h : j < L.length), at' + d ≤ j → B.2 53 (j + 1) = Int32.ofNat L[j]) → ∃ C, fm_text_136 g54 fu B v1 v2 (Int32.ofNat k5) (Int32.ofNat at') (Int32.ofNat (at' + d)) = g54 C v1 v2 (Int32.ofNat (k5 + 1)) ∧ mEx (fun k => k = 52 ∨ k = 53) B C ∧ inL C (L.take at' ++ r :: L.drop at') := by
  intro d
  induction d with
  | zero =>
    intro fu B _ hf h1 h2 h3 h4
    obtain ⟨fu, rfl⟩ : ∃ q, fu = q + 1 := ⟨fu - 1, by omega⟩
    have hone : Int32.ofNat k5 + 1 = Int32.ofNat (k5 + 1) := jI_add k5 1
    have hone2 : Int32.ofNat L.length + 1 = Int32.ofNat (L.length + 1) := jI_add L.length 1
    have e1 : (wr B 53 (Int32.ofNat at') (Int32.ofNat r)).1 52 = Int32.ofNat L.length := h1
    rw [fm_text_136, if_pos ((jI_le (by omega) (by omega)).mpr (by omega)), ck_n hk5 (by omega), ck_n (by omega) (by omega), rd_n _ _ (by omega), h2]
    simp only [lt_d, e1, hone, hone2]
    refine ⟨_, rfl, mEx_trans (mEx_wr (by simp) _ _) (mEx_pu (by simp) _), ?_, fun i hi => ?_⟩
    · rw [pu_s]; congr 1; simp; omega
    · obtain ⟨c1, c2, c3⟩ := cat_get (r := r) hat hi
      rw [pu_2, wr_s _ _ (by omega)]
      rcases Nat.lt_trichotomy i at' with c | c | c
      · obtain ⟨q1, q2⟩ := c1 c
        rw [q2, upd_o _ _ (by omega)]
        exact h3 i q1 (by omega)
      · rw [c2 c, c, upd_s]
      · obtain ⟨q1, q2⟩ := c3 c
        rw [q2, upd_o _ _ (by omega)]
        have := h4 (i - 1) q1 (by omega)
        rwa [show i - 1 + 1 = i by omega] at this
  | succ d ih =>
    intro fu B hd hf h1 h2 h3 h4
    obtain ⟨fu, rfl⟩ : ∃ q, fu = q + 1 := ⟨fu - 1, by omega⟩
    have hkk : Int32.ofNat (at' + (d + 1)) - (1 : Int32) = Int32.ofNat (at' + d) := by show Int32.ofNat (at' + d + 1) - Int32.ofNat 1 = _; rw [jI_sub (by omega)]; rfl
    have hkm : Int32.ofNat (at' + (d + 1)) + (-1 : Int32) = Int32.ofNat (at' + d) := by rw [← hkk, Int32.sub_eq_add_neg]
    have e0 := h3 (at' + d) (by omega) (by omega)
    rw [fm_text_136, if_neg (fun q => absurd ((jI_le (by omega) (by omega)).mp q) (by omega)), hkk, hkm, ck_n (by omega) (by omega), ck_n (by omega) (by omega), rd_n _ _ (by omega), e0, lt_d, lt_d]
    have e1 : mEx (fun k => k = 52 ∨ k = 53) B (wr B 53 (Int32.ofNat (at' + (d + 1))) (Int32.ofNat L[at' + d])) := mEx_wr (by simp) _ _
    obtain ⟨C, q1, q2, q3⟩ := ih fu (wr B 53 (Int32.ofNat (at' + (d + 1))) (Int32.ofNat L[at' + d])) (by omega) (by omega) h1 (by rw [wr_o _ _ _ (by decide)]; exact h2) (fun j hj hjd => by rw [wr_s _ _ (by omega), upd_o _ _ (by omega)]; exact h3 j hj (by omega)) (fun j hj hjd => by
      rw [wr_s _ _ (by omega)]
      by_cases ej : j = at' + d
      · subst ej; rw [show at' + d + 1 = at' + (d + 1) by omega, upd_s]
      · rw [upd_o _ _ (by omega)]; exact h4 j hj (by omega))
    exact ⟨C, q1, mEx_trans e1 q2, q3⟩
end R

-- part 35: the reference's texts, and its look
theorem rNm_inj {a b : Nat} (ha : a < 1000) (hb : b < 1000) (h : Int32.ofNat (rNm a) = Int32.ofNat (rNm b)) : a = b := by
  have h1 := rOf_nm ha
  rw [h, rOf_nm hb] at h1
  exact (Option.some.inj h1).symm
section R
variable {M A : mSt} {n : Nat} {l : List Nat}
theorem m_text66 {L : List Nat} {r k5 : Nat} {B : mSt} (e : mEx sc M B) (hr : r < 1000) (hk5 : k5 < 1000) (hL : inL B L) (hb : ∀ q ∈ L, q < 1000) (hlen : L.length < 1000) (h51 : B.2 51 k5 = Int32.ofNat r) (hw : M.2 13 r = 0 ∨ ∃ t, rOf (M.2 13 r) = some t ∧ t ∈ L) (g54 : mSt → Int32 → Int32 → Int32 → Option mSt) (v1 v2 : Int32) : ∃ pos, pos ≤ L.length ∧ fm_text_66 g54 mFU B v1 v2 (Int32.ofNat k5) 0 = fm_text_130 g54 B v1 v2 (Int32.ofNat k5) (Int32.ofNat pos) ∧ txS M L r = L.take pos ++ r :: L.drop pos := by
  have e112 : ∀ pos, fm_text_112 g54 B v1 v2 (Int32.ofNat k5) (Int32.ofNat pos) = if M.2 13 r = 0 then fm_text_130 g54 B v1 v2 (Int32.ofNat k5) (Int32.ofNat pos) else fm_text_130 g54 B v1 v2 (Int32.ofNat k5) (Int32.ofNat (pos + 1)) := fun pos => by
    have hone : Int32.ofNat pos + 1 = Int32.ofNat (pos + 1) := jI_add pos 1
    unfold fm_text_112
    rw [ck_n hk5 (by omega), rd_n _ _ (by omega), h51, ck_n hr (by omega), rd_e e (by decide) (by omega), lt_d, hone]
  rcases hw with hw | ⟨t, ht, htL⟩
  · refine ⟨0, Nat.zero_le _, ?_, ?_⟩
    · rw [show mFU = 199999 + 1 from rfl, fm_text_66, ck_n hk5 (by omega), rd_n _ _ (by omega), h51, ck_n hr (by omega), rd_e e (by decide) (by omega), if_pos hw]
      have := e112 0
      rw [if_pos hw] at this
      exact this
    · unfold txS; rw [hw, rOf_0]; rfl
  · have hw0 : ¬ M.2 13 r = 0 := fun q => by rw [q, rOf_0] at ht; cases ht
    have ewt := rOf_inv ht
    have ht4 := rOf_lt ht
    have hex : ∃ k, ∃ h : k < L.length, L[k] = t ∧ ∀ j (hj : j < k), L[j]'(by omega) ≠ t := by
      clear e112 e hL hb hlen
      induction L with
      | nil => cases htL
      | cons a L ih =>
        by_cases ea : a = t
        · exact ⟨0, by simp, ea, fun j hj => absurd hj (by omega)⟩
        · obtain ⟨k, h, h1, h2⟩ := ih (by
            rcases List.mem_cons.mp htL with h | h
            · exact absurd h.symm ea
            · exact h)
          refine ⟨k + 1, by simp; omega, h1, fun j hj => ?_⟩
          cases j with
          | zero => exact ea
          | succ j => exact h2 j (by omega)
    obtain ⟨pos, hpos, hp1, hp2⟩ := hex
    refine ⟨pos + 1, by omega, ?_, ?_⟩
    · have key := loopE (σ := Unit) (β := mSt) (N := pos) (F := fun k _ i => fm_text_66 g54 k B v1 v2 (Int32.ofNat k5) (Int32.ofNat i)) (R := fm_text_130 g54 B v1 v2 (Int32.ofNat k5) (Int32.ofNat (pos + 1))) (fun _ _ => True)
        (fun k _ _ => by
          show fm_text_66 g54 (k + 1) B v1 v2 (Int32.ofNat k5) (Int32.ofNat pos) = _
          have hq : L[pos] < 1000 := hb _ (List.getElem_mem hpos)
          have h53 := hL.2 pos hpos
          rw [fm_text_66, ck_n hk5 (by omega), rd_n _ _ (by omega), h51, ck_n hr (by omega), rd_e e (by decide) (by omega), if_neg hw0, ck_n (by omega) (by omega), rd_n _ _ (by omega), h53, m_nameOf hq, bd_s, ck_n hk5 (by omega), ck_n hr (by omega), if_pos (by rw [ewt, hp1]), e112, if_neg hw0])
        (fun k _ i hi _ => Or.inl ⟨(), trivial, by
          show fm_text_66 g54 (k + 1) B v1 v2 (Int32.ofNat k5) (Int32.ofNat i) = _
          have hone : Int32.ofNat i + 1 = Int32.ofNat (i + 1) := jI_add i 1
          have hq : L[i] < 1000 := hb _ (List.getElem_mem (by omega))
          have h53 := hL.2 i (by omega)
          rw [fm_text_66, ck_n hk5 (by omega), rd_n _ _ (by omega), h51, ck_n hr (by omega), rd_e e (by decide) (by omega), if_neg hw0, ck_n (by omega) (by omega), rd_n _ _ (by omega), h53, m_nameOf hq, bd_s, ck_n hk5 (by omega), ck_n hr (by omega), if_neg (fun q => hp2 i hi (rNm_inj hq ht4 (q.trans ewt))), lt_d, hone]⟩)
        pos 0 mFU () (by omega) (by unfold mFU; omega) trivial
      exact key
    · unfold txS
      rw [ht]
      exact insA_at hpos hp1 hp2
theorem m_text54 (h : rdy M A n l) {Li : List Nat} (hLi : inR A (fun _ => 0) Li) (hlen : Li.length ≤ 1000) (hok : txOk M Li) (h52 : A.1 52 = 0) : ∃ B, fm_text_54 mFU A (Int32.ofNat n) (Int32.ofNat l.length) 0 = some B ∧ mEx wT A B ∧ inR B (M.2 12) ((txL M Li).filter (tvP M l)) ∧ inL B (txL M Li) := by
  rw [inR_iff] at hLi
  have hbd : ∀ k, ∀ q ∈ txL M (Li.take k), q < 1000 := fun k q hq => by
    have hq2 := List.mem_of_mem_take (txL_mem.mp hq)
    obtain ⟨i, hi, rfl⟩ := List.mem_iff_getElem.mp hq2
    exact (hok i hi).1
  obtain ⟨b, q1, q2⟩ := loopI (σ := mSt) (β := mSt) (N := Li.length) (F := fun k B i => fm_text_54 k B (Int32.ofNat n) (Int32.ofNat l.length) (Int32.ofNat i)) (Q := fun B => mEx wT A B ∧ inR B (M.2 12) ((txL M Li).filter (tvP M l)) ∧ inL B (txL M Li))
    (fun i B => mEx (fun k => k = 52 ∨ k = 53) A B ∧ inL B (txL M (Li.take i)))
    (fun k B hI => by
      rw [List.take_length] at hI
      show ∃ b, fm_text_54 (k + 1) B _ _ (Int32.ofNat Li.length) = some b ∧ _
      have e49 : B.1 49 = Int32.ofNat Li.length := by rw [(hI.1 49 (by omega)).1]; exact hLi.1
      rw [fm_text_54, e49, if_pos ((jI_le (by omega) (by omega)).mpr (Nat.le_refl _)), lt_d]
      have hB : rdy M (pu B 49 0) n l := rdy_w h (mEx_trans (mEx_mono hI.1 (W' := wT) (fun j hj => by unfold wT; omega)) (mEx_pu (show wT 49 by unfold wT; omega) 0)) (fun j hj => by unfold wT at hj; omega)
      have hLB : inL (pu B 49 0) (txL M Li) := ⟨by rw [pu_o _ _ (by decide)]; exact hI.2.1, hI.2.2⟩
      have hb2 : ∀ r ∈ txL M Li, r < 1000 := by have := hbd Li.length; rwa [List.take_length] at this
      obtain ⟨C, e1, e2, e3⟩ := m_text203 hB hLB hb2 (by rw [txL_len]; exact hlen) (pu_s _ _ _)
      refine ⟨C, e1, ?_, e3, ?_, ?_⟩
      · exact mEx_trans (mEx_trans (mEx_mono hI.1 (fun j hj => by unfold wT; omega)) (mEx_pu (show wT 49 by unfold wT; omega) 0)) (mEx_mono e2 (fun j hj => by unfold wP at hj; unfold wT; omega))
      · rw [(e2 52 (by unfold wP; omega)).1]; exact hLB.1
      · rw [(e2 53 (by unfold wP; omega)).2]; exact hLB.2)
    (fun k B i hi hI => Or.inl (by
      show ∃ st', _ ∧ fm_text_54 (k + 1) B _ _ (Int32.ofNat i) = _
      have e49 : B.1 49 = Int32.ofNat Li.length := by rw [(hI.1 49 (by omega)).1]; exact hLi.1
      have e51 : B.2 51 i = Int32.ofNat Li[i] := by rw [(hI.1 51 (by omega)).2]; exact (hLi.2 i hi).2
      have eB : mEx sc M B := mEx_trans h.1 (mEx_mono hI.1 (fun j hj => by unfold sc; omega))
      have hlt : (txL M (Li.take i)).length < 1000 := by rw [txL_len, List.length_take]; omega
      obtain ⟨pos, p1, p2, p3⟩ := m_text66 (B := B) eB (hok i hi).1 (k5 := i) (by omega) hI.2 (hbd i) hlt e51 (by
        rcases (hok i hi).2 with hh | ⟨t, h1, h2⟩
        · exact Or.inl hh
        · exact Or.inr ⟨t, h1, txL_mem.mpr h2⟩) (fm_text_54 k) (Int32.ofNat n) (Int32.ofNat l.length)
      rw [fm_text_54, e49, if_neg (fun q => absurd ((jI_le (by omega) (by omega)).mp q) (by omega)), p2]
      unfold fm_text_130
      rw [lt_d, hI.2.1]
      obtain ⟨C, c1, c2, c3⟩ := m_text136 p1 hlt (hok i hi).1 (k5 := i) (by omega) (fm_text_54 k) (Int32.ofNat n) (Int32.ofNat l.length) ((txL M (Li.take i)).length - pos) mFU B (by omega) (by unfold mFU; omega) hI.2.1 e51 (fun j hj _ => hI.2.2 j hj) (fun j hj hd => absurd hj (by omega))
      rw [show pos + ((txL M (Li.take i)).length - pos) = (txL M (Li.take i)).length by omega] at c1
      refine ⟨C, ⟨mEx_trans hI.1 c2, ?_⟩, c1⟩
      rw [take_app hi, txL_app, p3]; exact c3))
    Li.length 0 mFU A (by omega) (Nat.lt_of_le_of_lt hlen (by decide)) ⟨mEx_refl _ _, h52, fun i hi => absurd hi (by simp [txL])⟩
  exact ⟨b, q1, q2⟩
theorem m_text (h : rdy M A n l) (hP : inP A []) (o p : Int32) (hok : txOk M (srt (rK M) (l.filter (fun r => decide (isO M 9 o p r))))) : ∃ B, fm_text A (Int32.ofNat n) (Int32.ofNat l.length) o p = some B ∧ mEx wT A B ∧ inR B (M.2 12) ((txL M (srt (rK M) (l.filter (fun r => decide (isO M 9 o p r))))).filter (tvP M l)) ∧ inL B (txL M (srt (rK M) (l.filter (fun r => decide (isO M 9 o p r))))) := by
  have h0 := h
  obtain ⟨h1, h2, h3, h4, h5⟩ := h
  have hle := h2.2.1
  unfold fm_text
  obtain ⟨b, q1, q2⟩ := loopI (σ := mSt) (β := mSt) (N := l.length) (F := fun k B i => fm_text_3 k B (Int32.ofNat n) (Int32.ofNat l.length) o p (Int32.ofNat i)) (Q := fun B => mEx wT A B ∧ inR B (M.2 12) ((txL M (srt (rK M) (l.filter (fun r => decide (isO M 9 o p r))))).filter (tvP M l)) ∧ inL B (txL M (srt (rK M) (l.filter (fun r => decide (isO M 9 o p r))))))
    (fun i B => mEx wP A B ∧ inR B (fun _ => 0) (srt (rK M) ((l.take i).filter (fun r => decide (isO M 9 o p r)))))
    (fun k B hI => by
      rw [List.take_length] at hI
      show ∃ b, fm_text_3 (k + 1) B _ _ o p (Int32.ofNat l.length) = some b ∧ _
      rw [fm_text_3, if_pos ((jI_le (by omega) (by omega)).mpr (Nat.le_refl _)), lt_d]
      have e1 : mEx wT A (pu B 52 0) := mEx_trans (mEx_mono hI.1 (fun j hj => by unfold wP at hj; unfold wT; omega)) (mEx_pu (show wT 52 by unfold wT; omega) 0)
      obtain ⟨C, c1, c2, c3, c4⟩ := m_text54 (A := pu B 52 0) (rdy_w h0 e1 (fun j hj => by unfold wT at hj; omega)) (Li := srt (rK M) (l.filter (fun r => decide (isO M 9 o p r)))) (by
        have := inR_iff.mp hI.2
        exact inR_iff.mpr ⟨by rw [pu_o _ _ (by decide)]; exact this.1, this.2⟩) (by
        rw [len_srt]
        exact Nat.le_trans (List.length_filter_le _ _) hle) hok (pu_s _ _ _)
      exact ⟨C, c1, mEx_trans e1 c2, c3, c4⟩)
    (fun k B i hi hI => Or.inl (by
      have hB := rdy_put h0 hI.1
      obtain ⟨b1, b2', b3, b4, b5⟩ := hB
      have hr := (h2.2.2 i hi).2
      show ∃ st', _ ∧ fm_text_3 (k + 1) B _ _ o p (Int32.ofNat i) = _
      rw [fm_text_3, if_neg (fun q => absurd ((jI_le (by omega) (by omega)).mp q) (by omega)), m_rowAtL b1 h2 hi, bd_s, m_isOf b1 hr, bd_s, srt_step _ hi]
      have hone : Int32.ofNat i + 1 = Int32.ofNat (i + 1) := jI_add i 1
      unfold fm_text_40
      simp only [lt_d, hone]
      by_cases c1 : isO M 9 o p l[i]
      · rw [b2_t c1, if_neg n10, bd_s, decide_eq_true c1]
        obtain ⟨C, e1, e2, e3⟩ := m_putInOrder h3 b1 (val := fun _ => 0) hr (flt_len h2 _ hi) (flt_lt h2 _) (sdl_srt _ _) hI.2
        rw [e1, bd_s]
        exact ⟨C, ⟨mEx_trans hI.1 e2, e3⟩, rfl⟩
      · rw [b2_f c1, if_pos rfl, decide_eq_false c1]
        exact ⟨B, hI, rfl⟩))
    l.length 0 mFU A (by omega) (Nat.lt_of_le_of_lt hle (by decide)) ⟨mEx_refl _ _, hP⟩
  exact ⟨b, q1, q2⟩
/-- what a look puts, by the rule of the part -/
def txR (M : mSt) (l : List Nat) (o p : Int32) : List Nat := txL M (srt (rK M) (l.filter (fun r => decide (isO M 9 o p r))))
def vaL (M : mSt) (l : List Nat) (o p rl : Int32) : List (Int32 × Int32) :=
  if rl = 65 then kvL (stB M l o p) 64
  else if rl = 66 then [(shB M l o p 0, -1), (shB M l o p 1, -1), (shB M l o p 2, -1), (shB M l o p 3, -1), (shB M l o p 0 + shB M l o p 1 + shB M l o p 2 + shB M l o p 3, -1)]
  else if rl = 67 then [(smB M l o p, -1)]
  else if rl = 76 then [(match ltB M l o p with | none => 0 | some r => M.2 12 r, rI (ltB M l o p))]
  else if rl = 77 then kvL (kyC M l o p) 64
  else if rl = 83 then (srt (rK M) (l.filter (svQ M l o p))).map (fun r => (M.2 12 r, Int32.ofNat r))
  else ((txR M l o p).filter (tvP M l)).map (fun r => (M.2 12 r, Int32.ofNat r))
def wL : Nat → Prop := fun k => k = 47 ∨ k = 48 ∨ k = 49 ∨ k = 50 ∨ k = 51 ∨ k = 52 ∨ k = 53
theorem m_look (e : mEx sc M A) (h2 : lAt M n l) (hj : jOkL M l) (h3 : tOk M) (h4 : kInj M l) {o p rl : Int32} (hrl : ∀ B, mEx sc M B → fm_ruleOf B o p = some rl) (hrs : rl = 65 ∨ rl = 66 ∨ rl = 67 ∨ rl = 76 ∨ rl = 77 ∨ rl = 83 ∨ rl = 84) (hok : rl = 84 → txOk M (srt (rK M) (l.filter (fun r => decide (isO M 9 o p r))))) : ∃ B, fm_look A (Int32.ofNat n) (Int32.ofNat l.length) o p = some B ∧ mEx wL A B ∧ inP B (vaL M l o p rl) ∧ (∀ r, r < 1000 → B.2 47 r = b2 (gd M l r = true)) ∧ (rl = 84 → inL B (txR M l o p)) := by
  unfold fm_look
  have e0 : mEx wL A (pu A 49 0) := mEx_pu (by unfold wL; omega) 0
  have e0' : mEx sc M (pu A 49 0) := mEx_trans e (mEx_pu (by unfold sc; omega) 0)
  obtain ⟨B, b1, b2', b3, b4⟩ := m_judgeL e0' h2 hj
  have eB : mEx wL A B := mEx_trans e0 (mEx_mono b2' (fun j hj => by unfold wL; omega))
  have eB' : mEx sc M B := mEx_trans e (mEx_mono eB (fun j hj => by unfold wL at hj; unfold sc; omega))
  have hR : rdy M B n l := ⟨eB', h2, h3, h4, b3⟩
  have hP : inP B [] := ⟨by rw [(b2' 49 (by omega)).1, pu_s]; rfl, fun i hi => absurd hi (by simp)⟩
  rw [lt_d, b1, bd_s, hrl B eB', bd_s]
  have fin : ∀ {C : mSt} {L : List (Int32 × Int32)} {W : Nat → Prop}, mEx W B C → (∀ k, W k → wL k ∧ k ≠ 47) → inP C L → L = vaL M l o p rl → rl ≠ 84 → ∃ D, bd (some C) (fun S5 => fm_look_189 S5) = some D ∧ mEx wL A D ∧ inP D (vaL M l o p rl) ∧ (∀ r, r < 1000 → D.2 47 r = b2 (gd M l r = true)) ∧ (rl = 84 → inL D (txR M l o p)) := by
    intro C L W e1 hW hc hL hne
    refine ⟨C, rfl, mEx_trans eB (mEx_mono e1 (fun k hk => (hW k hk).1)), hL ▸ hc, fun r hr => ?_, fun q => absurd q hne⟩
    rw [(e1 47 (fun q => (hW 47 q).2 rfl)).2]; exact b3 r hr
  have hw : ∀ k, wP k → wL k ∧ k ≠ 47 := fun k hk => by unfold wP at hk; unfold wL; omega
  rcases hrs with r0 | r0 | r0 | r0 | r0 | r0 | r0
  · subst r0
    obtain ⟨C, c1, c2, c3⟩ := m_set hR hP o p
    rw [if_pos (by decide), c1]
    exact fin c2 hw c3 rfl (by decide)
  · subst r0
    obtain ⟨C, c1, c2, c3⟩ := m_shares hR hP o p
    rw [if_neg (by decide), if_pos (by decide), c1]
    exact fin c2 hw c3 rfl (by decide)
  · subst r0
    obtain ⟨C, c1, c2, c3⟩ := m_sum hR hP o p
    rw [if_neg (by decide), if_neg (by decide), if_pos (by decide), c1]
    exact fin c2 hw c3 rfl (by decide)
  · subst r0
    obtain ⟨C, c1, c2, c3⟩ := m_latest hR hP o p
    simp only [show ¬ ((76 : Int32) = 65) by decide, show ¬ ((76 : Int32) = 66) by decide, show ¬ ((76 : Int32) = 67) by decide, show ¬ ((76 : Int32) = 68) by decide, show ¬ ((76 : Int32) = 69) by decide, show ¬ ((76 : Int32) = 70) by decide, show ¬ ((76 : Int32) = 71) by decide, show ¬ ((76 : Int32) = 72) by decide, show ¬ ((76 : Int32) = 73) by decide, show ¬ ((76 : Int32) = 74) by decide, show ¬ ((76 : Int32) = 75) by decide, if_false, if_true, c1]
    exact fin c2 hw c3 rfl (by decide)
  · subst r0
    obtain ⟨C, c1, c2, c3⟩ := m_keys hR hP o p
    simp only [show ¬ ((77 : Int32) = 65) by decide, show ¬ ((77 : Int32) = 66) by decide, show ¬ ((77 : Int32) = 67) by decide, show ¬ ((77 : Int32) = 68) by decide, show ¬ ((77 : Int32) = 69) by decide, show ¬ ((77 : Int32) = 70) by decide, show ¬ ((77 : Int32) = 71) by decide, show ¬ ((77 : Int32) = 72) by decide, show ¬ ((77 : Int32) = 73) by decide, show ¬ ((77 : Int32) = 74) by decide, show ¬ ((77 : Int32) = 75) by decide, show ¬ ((77 : Int32) = 76) by decide, if_false, if_true, c1]
    exact fin c2 hw c3 rfl (by decide)
  · subst r0
    obtain ⟨C, c1, c2, c3⟩ := m_several hR hP o p
    simp only [show ¬ ((83 : Int32) = 65) by decide, show ¬ ((83 : Int32) = 66) by decide, show ¬ ((83 : Int32) = 67) by decide, show ¬ ((83 : Int32) = 68) by decide, show ¬ ((83 : Int32) = 69) by decide, show ¬ ((83 : Int32) = 70) by decide, show ¬ ((83 : Int32) = 71) by decide, show ¬ ((83 : Int32) = 72) by decide, show ¬ ((83 : Int32) = 73) by decide, show ¬ ((83 : Int32) = 74) by decide, show ¬ ((83 : Int32) = 75) by decide, show ¬ ((83 : Int32) = 76) by decide, show ¬ ((83 : Int32) = 77) by decide, show ¬ ((83 : Int32) = 78) by decide, show ¬ ((83 : Int32) = 79) by decide, show ¬ ((83 : Int32) = 80) by decide, show ¬ ((83 : Int32) = 81) by decide, show ¬ ((83 : Int32) = 82) by decide, if_false, if_true, c1]
    exact fin c2 hw c3 rfl (by decide)
  · subst r0
    obtain ⟨C, c1, c2, c3, c4⟩ := m_text hR hP o p (hok rfl)
    simp only [show ¬ ((84 : Int32) = 65) by decide, show ¬ ((84 : Int32) = 66) by decide, show ¬ ((84 : Int32) = 67) by decide, show ¬ ((84 : Int32) = 68) by decide, show ¬ ((84 : Int32) = 69) by decide, show ¬ ((84 : Int32) = 70) by decide, show ¬ ((84 : Int32) = 71) by decide, show ¬ ((84 : Int32) = 72) by decide, show ¬ ((84 : Int32) = 73) by decide, show ¬ ((84 : Int32) = 74) by decide, show ¬ ((84 : Int32) = 75) by decide, show ¬ ((84 : Int32) = 76) by decide, show ¬ ((84 : Int32) = 77) by decide, show ¬ ((84 : Int32) = 78) by decide, show ¬ ((84 : Int32) = 79) by decide, show ¬ ((84 : Int32) = 80) by decide, show ¬ ((84 : Int32) = 81) by decide, show ¬ ((84 : Int32) = 82) by decide, show ¬ ((84 : Int32) = 83) by decide, if_false]
    unfold fm_look_180
    rw [c1]
    refine ⟨C, rfl, mEx_trans eB (mEx_mono c2 (fun k hk => by unfold wT at hk; unfold wL; omega)), c3, fun r hr => ?_, fun _ => c4⟩
    rw [(c2 47 (by unfold wT; omega)).2]; exact b3 r hr
end R

-- part 36: the reference's objects
def mkP (M : mSt) (r : Nat) : Bool := decide (M.2 9 r = 0)
/-- the objects of the rows l, in the order of their names -/
def obL (M : mSt) (l : List Nat) : List Nat := srt rNm (l.filter (mkP M))
def inO (A : mSt) (L : List Nat) : Prop := A.1 54 = Int32.ofNat L.length ∧ ∀ i (h : i < L.length), A.2 55 i = Int32.ofNat (rNm L[i])
def wO : Nat → Prop := fun k => k = 54 ∨ k = 55
theorem m_objGo {L : List Nat} {r : Nat} (hr : r < 1000) (hL : L.length < 48) (hb : ∀ i (h : i < L.length), L[i] < 1000) (hs : sdl rNm L) (g7 : mSt → Int32 → Int32 → Int32 → Option mSt) (v1 v2 v3 : Int32) : ∀ (k fu : Nat) (A : mSt), A.1 54 = Int32.ofNat L.length → k ≤ L.length → k < fu → (∀ j (h : j < L.length), j < k → A.2 55 j = Int32.ofNat (rNm L[j])) → (∀ j (h : j < L.length), k ≤ j → A.2 55 (j + 1) = Int32.ofNat (rNm L[j])) → (∀ j (h : j < L.length), k ≤ j → rNm r < rNm L[j]) → ∃ B, fm_findObjects_39 g7 fu A v1 v2 v3 (Int32.ofNat r) (Int32.ofNat k) = fm_findObjects_105 g7 B v1 v2 v3 ∧ mEx wO A B ∧ inO B (ins rNm r L) := by
  have hrn := rNm_lt hr
  have fin : ∀ (k : Nat) (A : mSt), A.1 54 = Int32.ofNat L.length → k ≤ L.length → (∀ j (h : j < L.length), j < k → A.2 55 j = Int32.ofNat (rNm L[j])) → (∀ j (h : j < L.length), k ≤ j → A.2 55 (j + 1) = Int32.ofNat (rNm L[j])) → (∀ j (h : j < L.length), k ≤ j → rNm r < rNm L[j]) → (∀ (h : k - 1 < L.length), 0 < k → rNm (L[k - 1]) ≤ rNm r) → ∃ B, fm_findObjects_83 g7 A v1 v2 v3 (Int32.ofNat r) (Int32.ofNat k) = fm_findObjects_105 g7 B v1 v2 v3 ∧ mEx wO A B ∧ inO B (ins rNm r L) := by
    intro k A h1 hk h2 h3 h4 h5
    have hone : Int32.ofNat L.length + 1 = Int32.ofNat (L.length + 1) := jI_add L.length 1
    have e1 : (wr A 55 (Int32.ofNat k) (Int32.ofNat (rNm r))).1 54 = Int32.ofNat L.length := h1
    unfold fm_findObjects_83
    rw [m_nameOf hr, bd_s, ck_n (by omega) (by omega), lt_d, lt_d, e1, hone]
    refine ⟨_, rfl, mEx_trans (mEx_wr (by unfold wO; omega) _ _) (mEx_pu (by unfold wO; omega) _), ?_⟩
    rw [ins_at k hs hk h4 h5]
    refine ⟨?_, fun i hi => ?_⟩
    · rw [pu_s]; congr 1; simp; omega
    · obtain ⟨c1, c2, c3⟩ := cat_get (r := r) hk hi
      rw [pu_2, wr_s _ _ (by omega)]
      rcases Nat.lt_trichotomy i k with c | c | c
      · obtain ⟨q1, q2⟩ := c1 c
        rw [q2, upd_o _ _ (by omega)]
        exact h2 i q1 c
      · rw [c2 c, c, upd_s]
      · obtain ⟨q1, q2⟩ := c3 c
        rw [q2, upd_o _ _ (by omega)]
        have := h3 (i - 1) q1 (by omega)
        rwa [show i - 1 + 1 = i by omega] at this
  intro k
  induction k with
  | zero =>
    intro fu A h1 hk hf h2 h3 h4
    obtain ⟨fu, rfl⟩ : ∃ q, fu = q + 1 := ⟨fu - 1, by omega⟩
    rw [fm_findObjects_39, if_pos (by decide)]
    exact fin 0 A h1 hk h2 h3 h4 (fun _ h => absurd h (by omega))
  | succ k ih =>
    intro fu A h1 hk hf h2 h3 h4
    obtain ⟨fu, rfl⟩ : ∃ q, fu = q + 1 := ⟨fu - 1, by omega⟩
    have hk' : k < L.length := by omega
    have hkk : Int32.ofNat (k + 1) - (1 : Int32) = Int32.ofNat k := by show Int32.ofNat (k + 1) - Int32.ofNat 1 = _; rw [jI_sub (by omega)]; rfl
    have hkm : Int32.ofNat (k + 1) + (-1 : Int32) = Int32.ofNat k := by rw [← hkk, Int32.sub_eq_add_neg]
    have hfr := h2 k hk' (by omega)
    have hln := rNm_lt (hb k hk')
    rw [fm_findObjects_39, if_neg (jI_p (by omega) (by omega)), hkk, hkm, ck_n (by omega) (by omega), m_nameOf hr, bd_s, rd_n _ _ (by omega), hfr]
    by_cases hlt : rNm L[k] ≤ rNm r
    · rw [if_pos ((jI_le (by omega) (by omega)).mpr hlt)]
      exact fin (k + 1) A h1 hk h2 h3 h4 (fun h _ => hlt)
    · rw [if_neg (fun q => hlt ((jI_le (by omega) (by omega)).mp q)), ck_n (by omega) (by omega), ck_n (by omega) (by omega), lt_d, lt_d]
      have e1 : mEx wO A (wr A 55 (Int32.ofNat (k + 1)) (Int32.ofNat (rNm L[k]))) := mEx_wr (by unfold wO; omega) _ _
      obtain ⟨B, q1, q2, q3⟩ := ih fu (wr A 55 (Int32.ofNat (k + 1)) (Int32.ofNat (rNm L[k]))) h1 (by omega) (by omega) (fun j hj hjk => by
        rw [wr_s _ _ (by omega), upd_o _ _ (by omega)]
        exact h2 j hj (by omega)) (fun j hj hjk => by
        rw [wr_s _ _ (by omega)]
        by_cases ej : j = k
        · subst ej; rw [upd_s]
        · rw [upd_o _ _ (by omega)]; exact h3 j hj (by omega)) (fun j hj hjk => by
        by_cases ej : j = k
        · subst ej; exact Nat.not_le.mp hlt
        · exact h4 j hj (by omega))
      exact ⟨B, q1, mEx_trans e1 q2, q3⟩
section R
variable {M A : mSt} {n : Nat} {l : List Nat}
theorem m_findObjects (e : mEx sc M A) (h2 : lAt M n l) (h48 : (l.filter (mkP M)).length ≤ 48) : ∃ B, fm_findObjects A (Int32.ofNat n) (Int32.ofNat l.length) = some B ∧ mEx wO A B ∧ inO B (obL M l) := by
  have hle := h2.2.1
  unfold fm_findObjects
  rw [lt_d]
  obtain ⟨b, q1, q2⟩ := loopI (σ := mSt) (β := mSt) (N := l.length) (F := fun k B i => fm_findObjects_7 k B (Int32.ofNat n) (Int32.ofNat l.length) (Int32.ofNat i)) (Q := fun B => mEx wO A B ∧ inO B (obL M l))
    (fun i B => mEx wO A B ∧ inO B (srt rNm ((l.take i).filter (mkP M))))
    (fun k B hI => ⟨B, by
      show fm_findObjects_7 (k + 1) B _ _ (Int32.ofNat l.length) = _
      rw [fm_findObjects_7, if_pos ((jI_le (by omega) (by omega)).mpr (Nat.le_refl _))], by rw [List.take_length] at hI; exact hI⟩)
    (fun k B i hi hI => Or.inl (by
      have hr := (h2.2.2 i hi).2
      have eB : mEx sc M B := mEx_trans e (mEx_mono hI.1 (fun j hj => by unfold wO at hj; unfold sc; omega))
      have hone : Int32.ofNat i + 1 = Int32.ofNat (i + 1) := jI_add i 1
      show ∃ st', _ ∧ fm_findObjects_7 (k + 1) B _ _ (Int32.ofNat i) = _
      rw [fm_findObjects_7, if_neg (fun q => absurd ((jI_le (by omega) (by omega)).mp q) (by omega)), m_rowAtL eB h2 hi, bd_s, ck_n hr (by omega), rd_e eB (by decide) (by omega), take_app hi, List.filter_append]
      have g105 : ∀ C, fm_findObjects_105 (fm_findObjects_7 k) C (Int32.ofNat n) (Int32.ofNat l.length) (Int32.ofNat i) = fm_findObjects_7 k C (Int32.ofNat n) (Int32.ofNat l.length) (Int32.ofNat (i + 1)) := fun C => by
        unfold fm_findObjects_105; rw [lt_d, hone]
      by_cases c : M.2 9 l[i] = 0
      · have hf : List.filter (mkP M) [l[i]] = [l[i]] := by simp [mkP, c]
        have hsub : ((l.take (i + 1)).filter (mkP M)).length ≤ 48 := Nat.le_trans ((List.take_sublist (i + 1) l).filter _).length_le h48
        rw [take_app hi, List.filter_append, hf, List.length_append] at hsub
        have hsub' : ((l.take i).filter (mkP M)).length + 1 ≤ 48 := hsub
        rw [if_pos c, lt_d, hI.2.1, hf, srt_app]
        obtain ⟨C, c1, c2, c3⟩ := m_objGo (L := srt rNm ((l.take i).filter (mkP M))) hr (by rw [len_srt]; omega) (fun j hj => lAt_mem h2 (List.mem_of_mem_take (List.mem_filter.mp (mem_srt.mp (List.getElem_mem hj))).1)) (sdl_srt _ _) (fm_findObjects_7 k) (Int32.ofNat n) (Int32.ofNat l.length) (Int32.ofNat i) _ mFU B hI.2.1 (Nat.le_refl _) (by rw [len_srt]; unfold mFU; omega) (fun j hj _ => hI.2.2 j hj) (fun j hj hd => absurd hj (by omega)) (fun j hj hd => absurd hj (by omega))
        exact ⟨C, ⟨mEx_trans hI.1 c2, c3⟩, by rw [c1, g105]⟩
      · have hf : List.filter (mkP M) [l[i]] = [] := by simp [mkP, c]
        rw [if_neg c, g105, hf, List.append_nil]
        exact ⟨B, hI, rfl⟩))
    l.length 0 mFU (pu A 54 0) (by omega) (Nat.lt_of_le_of_lt hle (by decide)) ⟨mEx_pu (by unfold wO; omega) _, pu_s _ _ _, fun i hi => absurd hi (by simp [srt])⟩
  exact ⟨b, q1, q2⟩
theorem obL_mem {r : Nat} : r ∈ obL M l ↔ r ∈ l ∧ M.2 9 r = 0 := by
  unfold obL
  rw [mem_srt, List.mem_filter]
  simp [mkP]
theorem m_placeOf {B : mSt} {L : List Nat} (hO : inO B L) (hL : L.length ≤ 48) (hb : ∀ r ∈ L, r < 1000) {k : Nat} (hk : k < L.length) (hn : L.Nodup) : fm_placeOf B (Int32.ofNat (rNm L[k])) = some (Int32.ofNat k) := by
  unfold fm_placeOf
  have key := loopE (σ := Unit) (β := Int32) (N := k) (F := fun fu _ i => fm_placeOf_2 B fu (Int32.ofNat (rNm L[k])) (Int32.ofNat i)) (R := some (Int32.ofNat k)) (fun _ _ => True)
    (fun fu _ _ => by
      show fm_placeOf_2 B (fu + 1) _ (Int32.ofNat k) = _
      rw [fm_placeOf_2, hO.1, if_neg (fun q => absurd ((jI_le (by omega) (by omega)).mp q) (by omega)), ck_n (by omega) (by omega), rd_n _ _ (by omega), hO.2 k hk, if_pos rfl])
    (fun fu _ i hi _ => Or.inl ⟨(), trivial, by
      show fm_placeOf_2 B (fu + 1) _ (Int32.ofNat i) = _
      have hone : Int32.ofNat i + 1 = Int32.ofNat (i + 1) := jI_add i 1
      rw [fm_placeOf_2, hO.1, if_neg (fun q => absurd ((jI_le (by omega) (by omega)).mp q) (by omega)), ck_n (by omega) (by omega), rd_n _ _ (by omega), hO.2 i (by omega), if_neg (fun q => by
        have := rNm_inj (hb _ (List.getElem_mem (by omega))) (hb _ (List.getElem_mem hk)) q
        have := (List.getElem_inj hn).mp this
        omega), lt_d, hone]⟩)
    k 0 mFU () (by omega) (by unfold mFU; omega) trivial
  exact key
end R
/-- parents go up without rings -/
def acy (pr : Nat → Option Nat) : Prop := (∃ d : Nat → Nat, ∀ a b, pr a = some b → d b < d a) ∧ ∀ a b, pr a = some b → a < 48 ∧ b < 48
theorem nd48 : ∀ (N : Nat) (l : List Nat), l.Nodup → (∀ x ∈ l, x < N) → l.length ≤ N := by
  intro N
  induction N with
  | zero =>
    intro l _ h
    cases l with
    | nil => exact Nat.le_refl _
    | cons a l => exact absurd (h a List.mem_cons_self) (by omega)
  | succ N ih =>
    intro l hn h
    have h1 : (l.filter (fun x => decide (x ≠ N))).length ≤ N := ih _ (hn.sublist List.filter_sublist) (fun x hx => by
      have hx2 := List.mem_filter.mp hx
      have := h x hx2.1
      have h3 : x ≠ N := by simpa using hx2.2
      omega)
    have h2 : l.length ≤ (l.filter (fun x => decide (x ≠ N))).length + 1 := by
      clear ih h h1
      induction l with
      | nil => simp
      | cons a l ih =>
        have hp := List.nodup_cons.mp hn
        by_cases ea : a = N
        · have : l.filter (fun x => decide (x ≠ N)) = l := by
            rw [List.filter_eq_self]
            intro x hx
            have : x ≠ N := fun e => hp.1 (ea ▸ e ▸ hx)
            simpa using this
          rw [List.filter_cons, if_neg (by simp [ea]), this]; simp
        · have := ih hp.2
          simp [ea]
          simpa using this
    omega
theorem undr_up {pr : Nat → Option Nat} {s : Nat} (h : acy pr) : ∀ (n : Nat) (a : Nat) (vis : List Nat) (d : Nat → Nat), (∀ a b, pr a = some b → d b < d a) → a < 48 → vis.Nodup → (∀ v ∈ vis, v < 48 ∧ d a < d v) → undr pr s n (some a) = true → undr pr s (48 - vis.length) (some a) = true := by
  intro n
  induction n with
  | zero => intro a vis d _ _ _ _ hu; cases hu
  | succ n ih =>
    intro a vis d hd ha hn hv hu
    have hna : a ∉ vis := fun q => absurd (hv a q).2 (Nat.lt_irrefl _)
    have hlen : (a :: vis).length ≤ 48 := nd48 48 _ (List.nodup_cons.mpr ⟨hna, hn⟩) (fun x hx => by
      rcases List.mem_cons.mp hx with rfl | hx
      · exact ha
      · exact (hv x hx).1)
    have hlen' : vis.length + 1 ≤ 48 := hlen
    obtain ⟨k, hk⟩ : ∃ k, 48 - vis.length = k + 1 := ⟨47 - vis.length, by omega⟩
    rw [hk]
    have hu1 : (if a = s then true else undr pr s n (pr a)) = true := hu
    show (if a = s then true else undr pr s k (pr a)) = true
    by_cases e : a = s
    · rw [if_pos e]
    · rw [if_neg e] at hu1 ⊢
      cases hb : pr a with
      | none =>
        rw [hb] at hu1
        cases n with
        | zero => cases hu1
        | succ n => cases hu1
      | some b =>
        rw [hb] at hu1
        have := ih b (a :: vis) d hd (h.2 a b hb).2 (List.nodup_cons.mpr ⟨hna, hn⟩) (fun v hv' => by
          rcases List.mem_cons.mp hv' with rfl | hv'
          · exact ⟨ha, hd _ _ hb⟩
          · exact ⟨(hv v hv').1, Nat.lt_trans (hd _ _ hb) (hv v hv').2⟩) hu1
        rwa [show 48 - (a :: vis).length = k by simp; omega] at this
theorem undr_48 {pr : Nat → Option Nat} {s : Nat} (h : acy pr) {n a : Nat} (ha : a < 48) (hu : undr pr s n (some a) = true) : undr pr s 48 (some a) = true := by
  obtain ⟨d, hd⟩ := h.1
  exact undr_up h n a [] d hd ha List.nodup_nil (fun v hv => by cases hv) hu
theorem undr_mono {pr : Nat → Option Nat} {s : Nat} : ∀ (n m : Nat) (o : Option Nat), n ≤ m → undr pr s n o = true → undr pr s m o = true := by
  intro n
  induction n with
  | zero => intro m o _ h; cases o <;> cases h
  | succ n ih =>
    intro m o hm h
    obtain ⟨m, rfl⟩ : ∃ q, m = q + 1 := ⟨m - 1, by omega⟩
    cases o with
    | none => cases h
    | some a =>
      have h1 : (if a = s then true else undr pr s n (pr a)) = true := h
      show (if a = s then true else undr pr s m (pr a)) = true
      by_cases e : a = s
      · rw [if_pos e]
      · rw [if_neg e] at h1 ⊢
        exact ih m (pr a) (by omega) h1
/-- a step of a move keeps parents without rings -/
theorem acy_upo {pr : Nat → Option Nat} {s p : Nat} (h : acy pr) (hs : s < 48) (hp : p < 48) (hu : undr pr s 48 (some p) = false) : acy (upo pr s (some p)) := by
  obtain ⟨d, hd⟩ := h.1
  refine ⟨?_, fun a b hab => ?_⟩
  · refine ⟨fun x => d x + (if undr pr s 48 (some x) = true then d p + 1 else 0), fun a b hab => ?_⟩
    by_cases ea : a = s
    · subst ea
      rw [upo_s] at hab
      cases hab
      have h1 : undr pr a 48 (some a) = true := by
        show (if a = a then true else undr pr a 47 (pr a)) = true
        rw [if_pos rfl]
      show d p + (if undr pr a 48 (some p) = true then d p + 1 else 0) < d a + (if undr pr a 48 (some a) = true then d p + 1 else 0)
      rw [if_neg (by rw [hu]; decide), if_pos h1]
      omega
    · rw [upo_o _ _ ea] at hab
      have hb48 := h.2 a b hab
      have hlt := hd a b hab
      have hiff : undr pr s 48 (some a) = undr pr s 48 (some b) := by
        rw [Bool.eq_iff_iff]
        constructor
        · intro q
          have hun : undr pr s 48 (some a) = undr pr s 47 (some b) := by
            show (if a = s then true else undr pr s 47 (pr a)) = _
            rw [if_neg ea, hab]
          rw [hun] at q; exact undr_mono 47 48 _ (by decide) q
        · intro q
          have : undr pr s 49 (some a) = true := by
            show (if a = s then true else undr pr s 48 (pr a)) = true
            rw [if_neg ea, hab]; exact q
          exact undr_48 h hb48.1 this
      show d b + (if undr pr s 48 (some b) = true then d p + 1 else 0) < d a + (if undr pr s 48 (some a) = true then d p + 1 else 0)
      rw [hiff]; omega
  · by_cases ea : a = s
    · subst ea; rw [upo_s] at hab; cases hab; exact ⟨hs, hp⟩
    · rw [upo_o _ _ ea] at hab; exact h.2 a b hab
theorem acy_none {pr : Nat → Option Nat} {s : Nat} (h : acy pr) : acy (upo pr s none) := by
  obtain ⟨d, hd⟩ := h.1
  refine ⟨⟨d, fun a b hab => ?_⟩, fun a b hab => ?_⟩
  · by_cases ea : a = s
    · subst ea; rw [upo_s] at hab; cases hab
    · rw [upo_o _ _ ea] at hab; exact hd a b hab
  · by_cases ea : a = s
    · subst ea; rw [upo_s] at hab; cases hab
    · rw [upo_o _ _ ea] at hab; exact h.2 a b hab
theorem acy_pSt {M : mSt} {mkO : Nat → Option Nat} {sl : Nat → Int32} {pr : Nat → Option Nat} (h : acy pr) {r s : Nat} (hs : s < 48) (es : sl r = Int32.ofNat s) : acy (pSt M mkO sl pr r) := by
  unfold pSt
  rw [es, jI_cl (by omega)]
  cases hsl : slF mkO (M.2 12 r) with
  | none => exact acy_none h
  | some p =>
    show acy (if undr pr s 48 (some p) then pr else upo pr s (some p))
    cases hu : undr pr s 48 (some p)
    · exact acy_upo h hs (slF_some hsl).1 hu
    · exact h
theorem acy_paL {M : mSt} {mkO : Nat → Option Nat} {sl : Nat → Int32} {L : List Nat} (hs : ∀ r ∈ L, ∃ s, s < 48 ∧ sl r = Int32.ofNat s) : acy (paL M mkO sl L) := by
  unfold paL
  have key : ∀ (L : List Nat) (pr : Nat → Option Nat), acy pr → (∀ r ∈ L, ∃ s, s < 48 ∧ sl r = Int32.ofNat s) → acy (L.foldl (pSt M mkO sl) pr) := by
    intro L
    induction L with
    | nil => intro pr h _; exact h
    | cons r L ih =>
      intro pr h hs
      obtain ⟨s, h1, h2⟩ := hs r List.mem_cons_self
      exact ih _ (acy_pSt h h1 h2) (fun q hq => hs q (List.mem_cons_of_mem _ hq))
  exact key L _ ⟨⟨fun _ => 0, fun a b h => by cases h⟩, fun a b h => by cases h⟩ hs

-- part 37: the reference's parents
/-- the name of a slot's object, -1 without -/
def nmI (mkO : Nat → Option Nat) (o : Option Nat) : Int32 := match o with | none => -1 | some j => match mkO j with | none => -1 | some m => Int32.ofNat (rNm m)
/-- slots and objects, among the rows l: each parent is an object of l -/
def slK (M : mSt) (mkO : Nat → Option Nat) (l : List Nat) : Prop := (∀ j m, mkO j = some m → j < 48 ∧ m < 1000) ∧ (∀ j j' m, mkO j = some m → mkO j' = some m → j = j') ∧ ∀ m ∈ l, M.2 9 m = 0 → ∃ j, mkO j = some m
/-- the parents by places are those by slots -/
def hasP (mkO : Nat → Option Nat) (A : mSt) (L : List Nat) (pr : Nat → Option Nat) : Prop := ∀ k (h : k < L.length) j, mkO j = some L[k] → A.2 56 k = nmI mkO (pr j)
section R
variable {M A : mSt} {n : Nat} {l : List Nat} {mkO : Nat → Option Nat} {sl : Nat → Int32}
theorem slF_mk (hK : ∀ j j' m, mkO j = some m → mkO j' = some m → j = j') (hb : ∀ j m, mkO j = some m → j < 48 ∧ m < 1000) {j m : Nat} (h : mkO j = some m) : slF mkO (Int32.ofNat (rNm m)) = some j := by
  cases hs : slF mkO (Int32.ofNat (rNm m)) with
  | none => exact absurd rfl (slF_none hs (hb j m h).1 h)
  | some j' =>
    obtain ⟨h1, r, h2, h3⟩ := slF_some hs
    have := rNm_inj (hb j m h).2 (hb j' r h2).2 h3
    subst this
    rw [hK j' j m h2 h]
theorem rNm_ne {r : Nat} (hr : r < 1000) : Int32.ofNat (rNm r) ≠ -1 := jI_ne (by have := rNm_lt hr; omega)
theorem slF_neg (hb : ∀ j m, mkO j = some m → j < 48 ∧ m < 1000) : slF mkO (-1) = none := by
  cases h : slF mkO (-1) with
  | none => rfl
  | some j =>
    obtain ⟨h1, r, h2, h3⟩ := slF_some h
    exact absurd h3.symm (rNm_ne (hb j r h2).2)
/-- whether a ring would be closed, as the reference finds it -/
theorem m_isRing {B : mSt} (hK : slK M mkO l) {L : List Nat} (hO : inO B L) (hL : L.length ≤ 48) (hn : L.Nodup) (hm : ∀ r, r ∈ L ↔ r ∈ l ∧ M.2 9 r = 0) (hb : ∀ r ∈ l, r < 1000) {pr : Nat → Option Nat} (hP : hasP mkO B L pr) (ha : acy pr) (hin : ∀ j q, pr j = some q → ∃ m, mkO q = some m ∧ m ∈ L) {top : Nat} {mt : Nat} (htop : mkO top = some mt) : ∀ (k fu : Nat) (o : Option Nat) (vis : List Nat) (d : Nat → Nat), (∀ a b, pr a = some b → d b < d a) → k + vis.length = 48 → k < fu → vis.Nodup → (∀ a, o = some a → (a < 48 ∧ ∃ m, mkO a = some m ∧ m ∈ L) ∧ ∀ v ∈ vis, v < 48 ∧ d a < d v) → fm_isRing_2 B fu (Int32.ofNat (rNm mt)) (nmI mkO o) = some (b2 (undr pr top k o = true)) := by
  have mt4 : mt < 1000 := (hK.1 top mt htop).2
  intro k
  induction k with
  | zero =>
    intro fu o vis d hd hk hf hv ho
    obtain ⟨fu, rfl⟩ : ∃ q, fu = q + 1 := ⟨fu - 1, by omega⟩
    cases o with
    | none =>
      rw [fm_isRing_2]
      show (if (-1 : Int32) = -1 then fm_isRing_26 B _ (-1) else _) = _
      rw [if_pos rfl]
      unfold fm_isRing_26 fm_isRing_36
      rw [if_neg (fun q => rNm_ne mt4 q.symm), b2_f (by unfold undr; simp)]; rfl
    | some a =>
      obtain ⟨⟨h1, -⟩, h2⟩ := ho a rfl
      have hna : a ∉ vis := fun q => absurd (h2 a q).2 (Nat.lt_irrefl _)
      have : (a :: vis).length ≤ 48 := nd48 48 _ (List.nodup_cons.mpr ⟨hna, hv⟩) (fun x hx => by
        rcases List.mem_cons.mp hx with rfl | hx
        · exact h1
        · exact (h2 x hx).1)
      simp at this
      omega
  | succ k ih =>
    intro fu o vis d hd hk hf hv ho
    obtain ⟨fu, rfl⟩ : ∃ q, fu = q + 1 := ⟨fu - 1, by omega⟩
    cases o with
    | none =>
      rw [fm_isRing_2]
      show (if (-1 : Int32) = -1 then fm_isRing_26 B _ (-1) else _) = _
      rw [if_pos rfl]
      unfold fm_isRing_26 fm_isRing_36
      rw [if_neg (fun q => rNm_ne mt4 q.symm), b2_f (by unfold undr; simp)]; rfl
    | some a =>
      obtain ⟨⟨h1, m, hma, hmL⟩, h2⟩ := ho a rfl
      have m4 : m < 1000 := (hK.1 a m hma).2
      have en : nmI mkO (some a) = Int32.ofNat (rNm m) := by show (match mkO a with | none => (-1 : Int32) | some m => Int32.ofNat (rNm m)) = _; rw [hma]
      have hu : undr pr top (k + 1) (some a) = if a = top then true else undr pr top k (pr a) := rfl
      rw [fm_isRing_2, en, if_neg (rNm_ne m4), hu]
      by_cases e : m = mt
      · subst e
        have ea : a = top := hK.2.1 a top m hma htop
        rw [if_pos rfl, if_pos ea]
        unfold fm_isRing_26 fm_isRing_36
        rw [if_pos rfl, b2_t rfl]; rfl
      · have ea : a ≠ top := fun q => by subst q; rw [hma] at htop; cases htop; exact e rfl
        rw [if_neg (fun q => e (rNm_inj m4 mt4 q)), if_neg ea]
        obtain ⟨kk, hkk, ekk⟩ := List.mem_iff_getElem.mp hmL
        have hpl := m_placeOf hO hL (fun r hr => hb r ((hm r).mp hr).1) hkk hn
        rw [ekk] at hpl
        rw [hpl, bd_s, ck_n (by omega) (by omega), lt_d, rd_n _ _ (by omega), hP kk hkk a (by rw [ekk]; exact hma)]
        refine ih fu (pr a) (a :: vis) d hd (by simp; omega) (by omega) (List.nodup_cons.mpr ⟨fun q => absurd (h2 a q).2 (Nat.lt_irrefl _), hv⟩) (fun b hbq => ⟨⟨(ha.2 a b hbq).2, hin a b hbq⟩, fun v hv' => ?_⟩)
        rcases List.mem_cons.mp hv' with rfl | hv'
        · exact ⟨h1, hd _ _ hbq⟩
        · exact ⟨(h2 v hv').1, Nat.lt_trans (hd _ _ hbq) (h2 v hv').2⟩
def inV2 (A : mSt) (L : List Nat) : Prop := A.1 57 = Int32.ofNat L.length ∧ ∀ i (h : i < L.length), A.2 58 i = Int32.ofNat L[i]
theorem m_movGo (ht : tOk M) {L : List Nat} {r : Nat} (hr : r < 1000) (hL : L.length < 1000) (hb : ∀ i (h : i < L.length), L[i] < 1000) (hs : sdl (rK M) L) (g : mSt → Int32 → Int32 → Int32 → Option mSt) (v1 v2 v3 : Int32) : ∀ (k fu : Nat) (A : mSt), mEx sc M A → A.1 57 = Int32.ofNat L.length → k ≤ L.length → k < fu → (∀ j (h : j < L.length), j < k → A.2 58 j = Int32.ofNat L[j]) → (∀ j (h : j < L.length), k ≤ j → A.2 58 (j + 1) = Int32.ofNat L[j]) → (∀ j (h : j < L.length), k ≤ j → rK M r < rK M L[j]) → ∃ B, fm_findParents_86 g fu A v1 v2 v3 (Int32.ofNat r) (Int32.ofNat k) = fm_findParents_150 g B v1 v2 v3 ∧ mEx (fun k => k = 57 ∨ k = 58) A B ∧ inV2 B (ins (rK M) r L) := by
  have fin : ∀ (k : Nat) (A : mSt), A.1 57 = Int32.ofNat L.length → k ≤ L.length → (∀ j (h : j < L.length), j < k → A.2 58 j = Int32.ofNat L[j]) → (∀ j (h : j < L.length), k ≤ j → A.2 58 (j + 1) = Int32.ofNat L[j]) → (∀ j (h : j < L.length), k ≤ j → rK M r < rK M L[j]) → (∀ (h : k - 1 < L.length), 0 < k → rK M (L[k - 1]) ≤ rK M r) → ∃ B, fm_findParents_131 g A v1 v2 v3 (Int32.ofNat r) (Int32.ofNat k) = fm_findParents_150 g B v1 v2 v3 ∧ mEx (fun k => k = 57 ∨ k = 58) A B ∧ inV2 B (ins (rK M) r L) := by
    intro k A h1 hk h2 h3 h4 h5
    have hone : Int32.ofNat L.length + 1 = Int32.ofNat (L.length + 1) := jI_add L.length 1
    have e1 : (wr A 58 (Int32.ofNat k) (Int32.ofNat r)).1 57 = Int32.ofNat L.length := h1
    unfold fm_findParents_131
    rw [ck_n (by omega) (by omega), lt_d, lt_d, e1, hone]
    refine ⟨_, rfl, mEx_trans (mEx_wr (by simp) _ _) (mEx_pu (by simp) _), ?_⟩
    rw [ins_at k hs hk h4 h5]
    refine ⟨?_, fun i hi => ?_⟩
    · rw [pu_s]; congr 1; simp; omega
    · obtain ⟨c1, c2, c3⟩ := cat_get (r := r) hk hi
      rw [pu_2, wr_s _ _ (by omega)]
      rcases Nat.lt_trichotomy i k with c | c | c
      · obtain ⟨q1, q2⟩ := c1 c
        rw [q2, upd_o _ _ (by omega)]
        exact h2 i q1 c
      · rw [c2 c, c, upd_s]
      · obtain ⟨q1, q2⟩ := c3 c
        rw [q2, upd_o _ _ (by omega)]
        have := h3 (i - 1) q1 (by omega)
        rwa [show i - 1 + 1 = i by omega] at this
  intro k
  induction k with
  | zero =>
    intro fu A e h1 hk hf h2 h3 h4
    obtain ⟨fu, rfl⟩ : ∃ q, fu = q + 1 := ⟨fu - 1, by omega⟩
    rw [fm_findParents_86, if_pos (by decide)]
    exact fin 0 A h1 hk h2 h3 h4 (fun _ h => absurd h (by omega))
  | succ k ih =>
    intro fu A e h1 hk hf h2 h3 h4
    obtain ⟨fu, rfl⟩ : ∃ q, fu = q + 1 := ⟨fu - 1, by omega⟩
    have hk' : k < L.length := by omega
    have hkk : Int32.ofNat (k + 1) - (1 : Int32) = Int32.ofNat k := by show Int32.ofNat (k + 1) - Int32.ofNat 1 = _; rw [jI_sub (by omega)]; rfl
    have hkm : Int32.ofNat (k + 1) + (-1 : Int32) = Int32.ofNat k := by rw [← hkk, Int32.sub_eq_add_neg]
    have hfr := h2 k hk' (by omega)
    rw [fm_findParents_86, if_neg (jI_p (by omega) (by omega)), hkk, hkm, ck_n (by omega) (by omega), rd_n _ _ (by omega), hfr, m_isBeforeL e ht hr (hb k hk'), bd_s]
    by_cases hlt : rK M r < rK M L[k]
    · rw [b2_t hlt, if_neg n10, ck_n (by omega) (by omega), ck_n (by omega) (by omega), lt_d, lt_d]
      have e1 : mEx (fun k => k = 57 ∨ k = 58) A (wr A 58 (Int32.ofNat (k + 1)) (Int32.ofNat L[k])) := mEx_wr (by simp) _ _
      obtain ⟨B, q1, q2, q3⟩ := ih fu (wr A 58 (Int32.ofNat (k + 1)) (Int32.ofNat L[k])) (mEx_trans e (mEx_mono e1 (fun j hj => by unfold sc; omega))) h1 (by omega) (by omega) (fun j hj hjk => by
        rw [wr_s _ _ (by omega), upd_o _ _ (by omega)]
        exact h2 j hj (by omega)) (fun j hj hjk => by
        rw [wr_s _ _ (by omega)]
        by_cases ej : j = k
        · subst ej; rw [upd_s]
        · rw [upd_o _ _ (by omega)]; exact h3 j hj (by omega)) (fun j hj hjk => by
        by_cases ej : j = k
        · subst ej; exact hlt
        · exact h4 j hj (by omega))
      exact ⟨B, q1, mEx_trans e1 q2, q3⟩
    · rw [b2_f hlt, if_pos rfl]
      exact fin (k + 1) A h1 hk h2 h3 h4 (fun h _ => Nat.not_lt.mp hlt)
def inH (A : mSt) (L : List Nat) : Prop := A.1 59 = Int32.ofNat L.length ∧ ∀ i (h : i < L.length), A.2 60 i = Int32.ofNat L[i]
theorem m_holGo (ht : tOk M) {L : List Nat} {r : Nat} (hr : r < 1000) (hL : L.length < 1000) (hb : ∀ i (h : i < L.length), L[i] < 1000) (hs : sdl (rK M) L) (g : mSt → Int32 → Int32 → Int32 → Option (Int32 × mSt)) (v1 v2 v3 : Int32) : ∀ (k fu : Nat) (A : mSt), mEx sc M A → A.1 59 = Int32.ofNat L.length → k ≤ L.length → k < fu → (∀ j (h : j < L.length), j < k → A.2 60 j = Int32.ofNat L[j]) → (∀ j (h : j < L.length), k ≤ j → A.2 60 (j + 1) = Int32.ofNat L[j]) → (∀ j (h : j < L.length), k ≤ j → rK M r < rK M L[j]) → ∃ B, fm_holder_69 g fu A v1 v2 v3 (Int32.ofNat r) (Int32.ofNat k) = fm_holder_133 g B v1 v2 v3 ∧ mEx (fun k => k = 59 ∨ k = 60) A B ∧ inH B (ins (rK M) r L) := by
  have fin : ∀ (k : Nat) (A : mSt), A.1 59 = Int32.ofNat L.length → k ≤ L.length → (∀ j (h : j < L.length), j < k → A.2 60 j = Int32.ofNat L[j]) → (∀ j (h : j < L.length), k ≤ j → A.2 60 (j + 1) = Int32.ofNat L[j]) → (∀ j (h : j < L.length), k ≤ j → rK M r < rK M L[j]) → (∀ (h : k - 1 < L.length), 0 < k → rK M (L[k - 1]) ≤ rK M r) → ∃ B, fm_holder_114 g A v1 v2 v3 (Int32.ofNat r) (Int32.ofNat k) = fm_holder_133 g B v1 v2 v3 ∧ mEx (fun k => k = 59 ∨ k = 60) A B ∧ inH B (ins (rK M) r L) := by
    intro k A h1 hk h2 h3 h4 h5
    have hone : Int32.ofNat L.length + 1 = Int32.ofNat (L.length + 1) := jI_add L.length 1
    have e1 : (wr A 60 (Int32.ofNat k) (Int32.ofNat r)).1 59 = Int32.ofNat L.length := h1
    unfold fm_holder_114
    rw [ck_n (by omega) (by omega), lt_d, lt_d, e1, hone]
    refine ⟨_, rfl, mEx_trans (mEx_wr (by simp) _ _) (mEx_pu (by simp) _), ?_⟩
    rw [ins_at k hs hk h4 h5]
    refine ⟨?_, fun i hi => ?_⟩
    · rw [pu_s]; congr 1; simp; omega
    · obtain ⟨c1, c2, c3⟩ := cat_get (r := r) hk hi
      rw [pu_2, wr_s _ _ (by omega)]
      rcases Nat.lt_trichotomy i k with c | c | c
      · obtain ⟨q1, q2⟩ := c1 c
        rw [q2, upd_o _ _ (by omega)]
        exact h2 i q1 c
      · rw [c2 c, c, upd_s]
      · obtain ⟨q1, q2⟩ := c3 c
        rw [q2, upd_o _ _ (by omega)]
        have := h3 (i - 1) q1 (by omega)
        rwa [show i - 1 + 1 = i by omega] at this
  intro k
  induction k with
  | zero =>
    intro fu A e h1 hk hf h2 h3 h4
    obtain ⟨fu, rfl⟩ : ∃ q, fu = q + 1 := ⟨fu - 1, by omega⟩
    rw [fm_holder_69, if_pos (by decide)]
    exact fin 0 A h1 hk h2 h3 h4 (fun _ h => absurd h (by omega))
  | succ k ih =>
    intro fu A e h1 hk hf h2 h3 h4
    obtain ⟨fu, rfl⟩ : ∃ q, fu = q + 1 := ⟨fu - 1, by omega⟩
    have hk' : k < L.length := by omega
    have hkk : Int32.ofNat (k + 1) - (1 : Int32) = Int32.ofNat k := by show Int32.ofNat (k + 1) - Int32.ofNat 1 = _; rw [jI_sub (by omega)]; rfl
    have hkm : Int32.ofNat (k + 1) + (-1 : Int32) = Int32.ofNat k := by rw [← hkk, Int32.sub_eq_add_neg]
    have hfr := h2 k hk' (by omega)
    rw [fm_holder_69, if_neg (jI_p (by omega) (by omega)), hkk, hkm, ck_n (by omega) (by omega), rd_n _ _ (by omega), hfr, m_isBeforeL e ht hr (hb k hk'), bd_s]
    by_cases hlt : rK M r < rK M L[k]
    · rw [b2_t hlt, if_neg n10, ck_n (by omega) (by omega), ck_n (by omega) (by omega), lt_d, lt_d]
      have e1 : mEx (fun k => k = 59 ∨ k = 60) A (wr A 60 (Int32.ofNat (k + 1)) (Int32.ofNat L[k])) := mEx_wr (by simp) _ _
      obtain ⟨B, q1, q2, q3⟩ := ih fu (wr A 60 (Int32.ofNat (k + 1)) (Int32.ofNat L[k])) (mEx_trans e (mEx_mono e1 (fun j hj => by unfold sc; omega))) h1 (by omega) (by omega) (fun j hj hjk => by
        rw [wr_s _ _ (by omega), upd_o _ _ (by omega)]
        exact h2 j hj (by omega)) (fun j hj hjk => by
        rw [wr_s _ _ (by omega)]
        by_cases ej : j = k
        · subst ej; rw [upd_s]
        · rw [upd_o _ _ (by omega)]; exact h3 j hj (by omega)) (fun j hj hjk => by
        by_cases ej : j = k
        · subst ej; exact hlt
        · exact h4 j hj (by omega))
      exact ⟨B, q1, mEx_trans e1 q2, q3⟩
    · rw [b2_f hlt, if_pos rfl]
      exact fin (k + 1) A h1 hk h2 h3 h4 (fun h _ => Nat.not_lt.mp hlt)
/-- the moves: of an object, to an object or none -/
def mvOk (M : mSt) (mkO : Nat → Option Nat) (sl : Nat → Int32) (l : List Nat) (r : Nat) : Prop := ∃ s m, mkO s = some m ∧ m ∈ l ∧ M.2 9 m = 0 ∧ M.2 10 r = Int32.ofNat (rNm m) ∧ sl r = Int32.ofNat s ∧ s < 48 ∧ (M.2 12 r = -1 ∨ ∃ j' m', mkO j' = some m' ∧ m' ∈ l ∧ M.2 9 m' = 0 ∧ M.2 12 r = Int32.ofNat (rNm m'))
def mvL (M : mSt) (l : List Nat) : List Nat := srt (rK M) (l.filter (fun r => decide (M.2 9 r = 11) && gd M l r))
def wPa : Nat → Prop := fun k => k = 47 ∨ k = 48 ∨ k = 54 ∨ k = 55 ∨ k = 56 ∨ k = 57 ∨ k = 58
theorem par_in (hK : slK M mkO l) {L : List Nat} (hmv : ∀ r ∈ L, mvOk M mkO sl l r) : ∀ j q, paL M mkO sl L j = some q → ∃ m, mkO q = some m ∧ m ∈ obL M l := by
  unfold paL
  have key : ∀ (L : List Nat) (pr : Nat → Option Nat), (∀ j q, pr j = some q → ∃ m, mkO q = some m ∧ m ∈ obL M l) → (∀ r ∈ L, mvOk M mkO sl l r) → ∀ j q, L.foldl (pSt M mkO sl) pr j = some q → ∃ m, mkO q = some m ∧ m ∈ obL M l := by
    intro L
    induction L with
    | nil => intro pr h _; exact h
    | cons r L ih =>
      intro pr h hs
      refine ih _ (fun j q hq => ?_) (fun q hq => hs q (List.mem_cons_of_mem _ hq))
      obtain ⟨s, m, hm1, hm2, hm3, hm4, hm5, hm6, hm7⟩ := hs r List.mem_cons_self
      unfold pSt at hq
      rcases hm7 with hv | ⟨j', m', k1, k2, k3, k4⟩
      · rw [hv, slF_neg hK.1] at hq
        have hq' : upo pr (sl r).toNatClampNeg none j = some q := hq
        by_cases ej : j = (sl r).toNatClampNeg
        · rw [ej, upo_s] at hq'; cases hq'
        · rw [upo_o _ _ ej] at hq'; exact h j q hq'
      · rw [k4, slF_mk hK.2.1 hK.1 k1] at hq
        have hq' : (if undr pr (sl r).toNatClampNeg 48 (some j') then pr else upo pr (sl r).toNatClampNeg (some j')) j = some q := hq
        split at hq'
        · exact h j q hq'
        · by_cases ej : j = (sl r).toNatClampNeg
          · rw [ej, upo_s] at hq'; cases hq'; exact ⟨m', k1, obL_mem.mpr ⟨k2, k3⟩⟩
          · rw [upo_o _ _ ej] at hq'; exact h j q hq'
  exact key L _ (fun j q h => by cases h) hmv
theorem m_par158 {B : mSt} (e : mEx sc M B) (hK : slK M mkO l) (h48 : (obL M l).length ≤ 48) (hnd : l.Nodup) (hb : ∀ r ∈ l, r < 1000) (hO : inO B (obL M l)) {L : List Nat} (hV : inV2 B L) (hL : L.length ≤ 1000) (hmv : ∀ r ∈ L, r ∈ l ∧ mvOk M mkO sl l r) (h0 : hasP mkO B (obL M l) (fun _ => none)) : ∃ C, fm_findParents_158 mFU B 0 = some C ∧ mEx (fun k => k = 56) B C ∧ hasP mkO C (obL M l) (paL M mkO sl L) := by
  have hnO : (obL M l).Nodup := (perm_srt rNm _).nodup_iff.mpr (hnd.sublist List.filter_sublist)
  have hbO : ∀ r ∈ obL M l, r < 1000 := fun r hr => hb r (obL_mem.mp hr).1
  obtain ⟨b, q1, q2⟩ := loopI (σ := mSt) (β := mSt) (N := L.length) (F := fun k B i => fm_findParents_158 k B (Int32.ofNat i)) (Q := fun C => mEx (fun k => k = 56) B C ∧ hasP mkO C (obL M l) (paL M mkO sl L))
    (fun i C => mEx (fun k => k = 56) B C ∧ hasP mkO C (obL M l) (paL M mkO sl (L.take i)))
    (fun k C hI => ⟨C, by
      show fm_findParents_158 (k + 1) C (Int32.ofNat L.length) = _
      have e57 : C.1 57 = Int32.ofNat L.length := by rw [(hI.1 57 (by omega)).1]; exact hV.1
      rw [fm_findParents_158, e57, if_pos ((jI_le (by omega) (by omega)).mpr (Nat.le_refl _))], by rw [List.take_length] at hI; exact hI⟩)
    (fun k C i hi hI => Or.inl (by
      have e57 : C.1 57 = Int32.ofNat L.length := by rw [(hI.1 57 (by omega)).1]; exact hV.1
      have e58 : C.2 58 i = Int32.ofNat L[i] := by rw [(hI.1 58 (by omega)).2]; exact hV.2 i hi
      have eC : mEx sc M C := mEx_trans e (mEx_mono hI.1 (fun j hj => by unfold sc; omega))
      have hOC : inO C (obL M l) := ⟨by rw [(hI.1 54 (by omega)).1]; exact hO.1, by rw [(hI.1 55 (by omega)).2]; exact hO.2⟩
      obtain ⟨hrl, s, m, hm1, hm2, hm3, hm4, hm5, hm6, hm7⟩ := hmv _ (List.getElem_mem hi)
      have hr := hb _ hrl
      have hone : Int32.ofNat i + 1 = Int32.ofNat (i + 1) := jI_add i 1
      show ∃ st', _ ∧ fm_findParents_158 (k + 1) C (Int32.ofNat i) = _
      rw [fm_findParents_158, e57, if_neg (fun q => absurd ((jI_le (by omega) (by omega)).mp q) (by omega)), ck_n (by omega) (by omega), lt_d, rd_n _ _ (by omega), e58, ck_n hr (by omega), ck_n hr (by omega), rd_e eC (by decide) (by omega), rd_e eC (by decide) (by omega), hm4]
      unfold fm_findParents_218
      simp only [lt_d, hone]
      have hpa : ∀ pr, pr = paL M mkO sl (L.take i) → paL M mkO sl (L.take (i + 1)) = pSt M mkO sl pr L[i] := fun pr ep => by
        rw [take_app hi, ep]; unfold paL; rw [List.foldl_append]; rfl
      have hac : acy (paL M mkO sl (L.take i)) := acy_paL (fun q hq => by
        obtain ⟨-, s', -, -, -, -, -, h5, h6, -⟩ := hmv q (List.mem_of_mem_take hq)
        exact ⟨s', h6, h5⟩)
      have hin : ∀ j q, paL M mkO sl (L.take i) j = some q → ∃ m, mkO q = some m ∧ m ∈ obL M l := par_in hK (fun q hq => (hmv q (List.mem_of_mem_take hq)).2)
      rw [hpa _ rfl]
      have hPi := hI.2
      generalize paL M mkO sl (L.take i) = pr at hac hin hPi
      obtain ⟨kk, hkk, ekk⟩ := List.mem_iff_getElem.mp (obL_mem.mpr ⟨hm2, hm3⟩)
      have hpl := m_placeOf hOC h48 hbO hkk hnO
      rw [ekk] at hpl
      have hring : ∀ o, (∀ a, o = some a → a < 48 ∧ ∃ m, mkO a = some m ∧ m ∈ obL M l) → fm_isRing C (Int32.ofNat (rNm m)) (nmI mkO o) = some (b2 (undr pr s 48 o = true)) := fun o ho => by
        obtain ⟨d, hd⟩ := hac.1
        exact m_isRing (B := C) hK hOC h48 hnO (fun r => obL_mem) hb hPi hac hin hm1 48 mFU o [] d hd (by simp) (by decide) List.nodup_nil (fun a ea => ⟨ho a ea, fun v hv => by cases hv⟩)
      have wrt : ∀ o, M.2 12 L[i] = nmI mkO o → hasP mkO (wr C 56 (Int32.ofNat kk) (M.2 12 L[i])) (obL M l) (upo pr s o) := fun o ho k' hk' j hj => by
        rw [wr_s _ _ (by omega)]
        by_cases ek : k' = kk
        · subst ek
          have : j = s := hK.2.1 j s m (by rw [hj, ekk]) hm1
          rw [upd_s, this, upo_s, ho]
        · have : j ≠ s := fun q => by
            subst q
            rw [hm1] at hj
            have h5 := Option.some.inj hj
            rw [← ekk] at h5
            exact ek ((List.getElem_inj hnO).mp h5).symm
          rw [upd_o _ _ ek, upo_o _ _ this]
          exact hPi k' hk' j hj
      unfold pSt
      rw [hm5, jI_cl (show s < 2147483648 by omega)]
      have set : ∀ o, M.2 12 L[i] = nmI mkO o → undr pr s 48 o = false → (∀ a, o = some a → a < 48 ∧ ∃ m, mkO a = some m ∧ m ∈ obL M l) → ∃ st', (mEx (fun k => k = 56) B st' ∧ hasP mkO st' (obL M l) (upo pr s o)) ∧ (bd (fm_isRing C (Int32.ofNat (rNm m)) (M.2 12 L[i])) fun r3 => if r3 = 0 then ck (Int32.ofNat L[i]) 1000 (bd (fm_placeOf C (Int32.ofNat (rNm m))) fun r5 => ck (Int32.ofNat L[i]) 1000 (ck r5 48 (fm_findParents_158 k (wr C 56 r5 (M.2 12 L[i])) (Int32.ofNat (i + 1))))) else fm_findParents_158 k C (Int32.ofNat (i + 1))) = fm_findParents_158 k st' (Int32.ofNat (i + 1)) := fun o ho hu hh => by
        refine ⟨wr C 56 (Int32.ofNat kk) (M.2 12 L[i]), ⟨mEx_trans hI.1 (mEx_wr1 _ _), wrt o ho⟩, ?_⟩
        rw [ho, hring o hh, bd_s, hu, if_pos bFn, ck_n hr (by omega), hpl, bd_s, ck_n hr (by omega), ck_n (by omega) (by omega)]
      rcases hm7 with hv | ⟨j', m', k1, k2, k3, k4⟩
      · rw [hv, slF_neg hK.1, ← hv]
        exact set none hv (by unfold undr; rfl) (fun a ha => by cases ha)
      · have hsl : slF mkO (M.2 12 L[i]) = some j' := by rw [k4]; exact slF_mk hK.2.1 hK.1 k1
        have hnm : M.2 12 L[i] = nmI mkO (some j') := by show M.2 12 L[i] = (match mkO j' with | none => (-1 : Int32) | some m => Int32.ofNat (rNm m)); rw [k1]; exact k4
        have hh : ∀ a, some j' = some a → a < 48 ∧ ∃ m, mkO a = some m ∧ m ∈ obL M l := fun a ha => by
          cases ha
          exact ⟨(hK.1 _ _ k1).1, m', k1, obL_mem.mpr ⟨k2, k3⟩⟩
        rw [hsl]
        show ∃ st', (_ ∧ hasP mkO st' (obL M l) (if undr pr s 48 (some j') then pr else upo pr s (some j'))) ∧ _
        cases hu : undr pr s 48 (some j')
        · exact set (some j') hnm hu hh
        · refine ⟨C, ⟨hI.1, hPi⟩, ?_⟩
          rw [hnm, hring _ hh, bd_s, hu, if_neg bTn]))
    L.length 0 mFU B (by omega) (Nat.lt_of_le_of_lt hL (by decide)) ⟨mEx_refl _ _, h0⟩
  exact ⟨b, q1, q2⟩
end R

-- part 38: the reference's parents and holders
section R
variable {M A : mSt} {n : Nat} {l : List Nat} {mkO : Nat → Option Nat} {sl : Nat → Int32}
theorem m_par42 {B : mSt} (h : rdy M B n l) (hK : slK M mkO l) (h48 : (obL M l).length ≤ 48) (hO : inO B (obL M l)) (h57 : B.1 57 = 0) (hmv : ∀ r ∈ l, M.2 9 r = 11 → mvOk M mkO sl l r) (h0 : hasP mkO B (obL M l) (fun _ => none)) : ∃ C, fm_findParents_42 mFU B (Int32.ofNat n) (Int32.ofNat l.length) 0 = some C ∧ mEx wPa B C ∧ inO C (obL M l) ∧ hasP mkO C (obL M l) (paL M mkO sl (mvL M l)) := by
  have hh := h
  obtain ⟨h1, h2, h3, h4, h5⟩ := h
  have hle := h2.2.1
  obtain ⟨b, q1, q2⟩ := loopI (σ := mSt) (β := mSt) (N := l.length) (F := fun k B i => fm_findParents_42 k B (Int32.ofNat n) (Int32.ofNat l.length) (Int32.ofNat i)) (Q := fun C => mEx wPa B C ∧ inO C (obL M l) ∧ hasP mkO C (obL M l) (paL M mkO sl (mvL M l)))
    (fun i C => mEx (fun k => k = 57 ∨ k = 58) B C ∧ inV2 C (srt (rK M) ((l.take i).filter (fun r => decide (M.2 9 r = 11) && gd M l r))))
    (fun k C hI => by
      rw [List.take_length] at hI
      show ∃ b, fm_findParents_42 (k + 1) C _ _ (Int32.ofNat l.length) = some b ∧ _
      rw [fm_findParents_42, if_pos ((jI_le (by omega) (by omega)).mpr (Nat.le_refl _))]
      have eC : mEx sc M C := mEx_trans h1 (mEx_mono hI.1 (fun j hj => by unfold sc; rcases hj with hj | hj <;> omega))
      have hOC : inO C (obL M l) := ⟨by rw [(hI.1 54 (by omega)).1]; exact hO.1, by rw [(hI.1 55 (by omega)).2]; exact hO.2⟩
      obtain ⟨D, d1, d2, d3⟩ := m_par158 (B := C) (sl := sl) eC hK h48 h4.1 (fun r hr => lAt_mem h2 hr) hOC hI.2 (by rw [len_srt]; exact Nat.le_trans (List.length_filter_le _ _) hle) (fun r hr => by
        have hr2 := List.mem_filter.mp (mem_srt.mp hr)
        have h9 : M.2 9 r = 11 := by
          have := hr2.2
          simp at this
          exact this.1
        exact ⟨hr2.1, hmv r hr2.1 h9⟩) (fun k' hk' j hj => by rw [(hI.1 56 (by omega)).2]; exact h0 k' hk' j hj)
      refine ⟨D, d1, ?_, ?_, d3⟩
      · exact mEx_trans (mEx_mono hI.1 (fun j hj => by unfold wPa; rcases hj with hj | hj <;> omega)) (mEx_mono d2 (fun j hj => by unfold wPa; have hj' : j = 56 := hj; omega))
      · exact ⟨by rw [(d2 54 (by omega)).1]; exact hOC.1, by rw [(d2 55 (by omega)).2]; exact hOC.2⟩)
    (fun k C i hi hI => Or.inl (by
      have hr := (h2.2.2 i hi).2
      have eC : mEx sc M C := mEx_trans h1 (mEx_mono hI.1 (fun j hj => by unfold sc; rcases hj with hj | hj <;> omega))
      have hg47 : C.2 47 l[i] = b2 (gd M l l[i] = true) := by rw [(hI.1 47 (by omega)).2]; exact h5 _ hr
      have hone : Int32.ofNat i + 1 = Int32.ofNat (i + 1) := jI_add i 1
      have g150 : ∀ D, fm_findParents_150 (fm_findParents_42 k) D (Int32.ofNat n) (Int32.ofNat l.length) (Int32.ofNat i) = fm_findParents_42 k D (Int32.ofNat n) (Int32.ofNat l.length) (Int32.ofNat (i + 1)) := fun D => by
        unfold fm_findParents_150; rw [lt_d, hone]
      show ∃ st', _ ∧ fm_findParents_42 (k + 1) C _ _ (Int32.ofNat i) = _
      rw [fm_findParents_42, if_neg (fun q => absurd ((jI_le (by omega) (by omega)).mp q) (by omega)), m_rowAtL eC h2 hi, bd_s, ck_n hr (by omega), rd_e eC (by decide) (by omega), srt_step _ hi]
      by_cases c : M.2 9 l[i] = 11
      · rw [if_pos c, ck_n hr (by omega), rd_n _ _ (by omega), hg47, decide_eq_true c, Bool.true_and]
        cases hg : gd M l l[i]
        · rw [if_pos bFn, g150]
          exact ⟨C, hI, rfl⟩
        · rw [if_neg bTn, lt_d, hI.2.1]
          obtain ⟨D, c1, c2, c3⟩ := m_movGo (M := M) h3 (L := srt (rK M) ((l.take i).filter (fun r => decide (M.2 9 r = 11) && gd M l r))) hr (flt_len h2 _ hi) (flt_lt h2 _) (sdl_srt _ _) (fm_findParents_42 k) (Int32.ofNat n) (Int32.ofNat l.length) (Int32.ofNat i) _ mFU C eC hI.2.1 (Nat.le_refl _) (Nat.lt_trans (flt_len h2 _ hi) (by decide)) (fun j hj _ => hI.2.2 j hj) (fun j hj hd => absurd hj (by omega)) (fun j hj hd => absurd hj (by omega))
          exact ⟨D, ⟨mEx_trans hI.1 c2, c3⟩, by rw [c1, g150]⟩
      · rw [if_neg c, g150, decide_eq_false c, Bool.false_and]
        exact ⟨C, hI, rfl⟩))
    l.length 0 mFU B (by omega) (Nat.lt_of_le_of_lt hle (by decide)) ⟨mEx_refl _ _, h57, fun i hi => absurd hi (by simp [srt])⟩
  exact ⟨b, q1, q2⟩
theorem m_findParents (e : mEx sc M A) (h2 : lAt M n l) (hj : jOkL M l) (h3 : tOk M) (h4 : kInj M l) (hK : slK M mkO l) (h48 : (l.filter (mkP M)).length ≤ 48) (hmv : ∀ r ∈ l, M.2 9 r = 11 → mvOk M mkO sl l r) : ∃ B, fm_findParents A (Int32.ofNat n) (Int32.ofNat l.length) = some B ∧ mEx wPa A B ∧ inO B (obL M l) ∧ hasP mkO B (obL M l) (paL M mkO sl (mvL M l)) := by
  unfold fm_findParents
  obtain ⟨B, b1, b2', b3⟩ := m_findObjects e h2 h48
  have eB : mEx sc M B := mEx_trans e (mEx_mono b2' (fun j hj => by unfold wO at hj; unfold sc; omega))
  obtain ⟨C, c1, c2, c3, c4⟩ := m_judgeL eB h2 hj
  have eC : mEx sc M C := mEx_trans eB (mEx_mono c2 (fun j hj => by unfold sc; rcases hj with hj | hj <;> omega))
  have hOC : inO C (obL M l) := ⟨by rw [(c2 54 (by omega)).1]; exact b3.1, by rw [(c2 55 (by omega)).2]; exact b3.2⟩
  have hlen : (obL M l).length ≤ 48 := by unfold obL; rw [len_srt]; exact h48
  rw [b1, bd_s, c1, bd_s]
  have eAC : mEx wPa A C := mEx_trans (mEx_mono b2' (fun j hj => by unfold wO at hj; unfold wPa; omega)) (mEx_mono c2 (fun j hj => by unfold wPa; rcases hj with hj | hj <;> omega))
  obtain ⟨b, q1, q2⟩ := loopI (σ := mSt) (β := mSt) (N := (obL M l).length) (F := fun k B i => fm_findParents_14 k B (Int32.ofNat n) (Int32.ofNat l.length) (Int32.ofNat i)) (Q := fun D => mEx wPa A D ∧ inO D (obL M l) ∧ hasP mkO D (obL M l) (paL M mkO sl (mvL M l)))
    (fun i D => mEx (fun k => k = 56) C D ∧ ∀ k, k < i → D.2 56 k = -1)
    (fun k D hI => by
      show ∃ b, fm_findParents_14 (k + 1) D _ _ (Int32.ofNat (obL M l).length) = some b ∧ _
      have e54 : D.1 54 = Int32.ofNat (obL M l).length := by rw [(hI.1 54 (by omega)).1]; exact hOC.1
      rw [fm_findParents_14, e54, if_pos ((jI_le (by omega) (by omega)).mpr (Nat.le_refl _)), lt_d]
      have eD : mEx wPa C (pu D 57 0) := mEx_trans (mEx_mono hI.1 (fun j hj => by unfold wPa; have hj' : j = 56 := hj; omega)) (mEx_pu (by unfold wPa; omega) 0)
      have hD : rdy M (pu D 57 0) n l := ⟨mEx_trans eC (mEx_mono eD (fun j hj => by unfold wPa at hj; unfold sc; omega)), h2, h3, h4, fun r hr => by
        rw [pu_2, (hI.1 47 (by omega)).2]; exact c3 r hr⟩
      obtain ⟨E, f1, f2, f3, f4⟩ := m_par42 (sl := sl) hD hK hlen ⟨by rw [pu_o _ _ (by decide)]; exact e54, by rw [pu_2, (hI.1 55 (by omega)).2]; exact hOC.2⟩ (pu_s _ _ _) hmv (fun k' hk' j hj => by rw [pu_2]; exact hI.2 k' hk')
      exact ⟨E, f1, mEx_trans eAC (mEx_trans eD f2), f3, f4⟩)
    (fun k D i hi hI => Or.inl (by
      have e54 : D.1 54 = Int32.ofNat (obL M l).length := by rw [(hI.1 54 (by omega)).1]; exact hOC.1
      have hone : Int32.ofNat i + 1 = Int32.ofNat (i + 1) := jI_add i 1
      show ∃ st', _ ∧ fm_findParents_14 (k + 1) D _ _ (Int32.ofNat i) = _
      rw [fm_findParents_14, e54, if_neg (fun q => absurd ((jI_le (by omega) (by omega)).mp q) (by omega)), ck_n (by omega) (by omega), lt_d, lt_d, hone]
      refine ⟨_, ⟨mEx_trans hI.1 (mEx_wr1 _ _), fun k' hk' => ?_⟩, rfl⟩
      rw [wr_s _ _ (by omega)]
      by_cases ek : k' = i
      · rw [ek, upd_s]
      · rw [upd_o _ _ ek]; exact hI.2 k' (by omega)))
    (obL M l).length 0 mFU C (by omega) (Nat.lt_of_le_of_lt hlen (by decide)) ⟨mEx_refl _ _, fun k hk => absurd hk (by omega)⟩
  exact ⟨b, q1, q2⟩
/-- claims and releases of an object, in order -/
def clL (M : mSt) (l : List Nat) (o : Int32) : List Nat := srt (rK M) (l.filter (fun r => decide ((M.2 9 r = 17 ∨ M.2 9 r = 18) ∧ M.2 10 r = o)))
def nwT (M : mSt) (n : Nat) : Int32 := if M.2 17 n ≤ M.2 18 n then M.2 18 n else M.2 17 n
theorem m_nowOf (e : mEx sc M A) (hn : n < 4) : fm_nowOf A (Int32.ofNat n) = some (nwT M n) := by
  unfold fm_nowOf fm_nowOf_30 nwT
  rw [ck_n hn (by omega), ck_n hn (by omega), rd_e e (by decide) (by omega), rd_e e (by decide) (by omega)]
  split
  · rw [ck_n hn (by omega)]
  · rw [ck_n hn (by omega)]
theorem m_hol147 {B : mSt} (e : mEx sc M B) (hn : n < 4) {L : List Nat} (hH : inH B L) (hL : L.length ≤ 1000) (hb : ∀ r ∈ L, r < 1000) (hs : ∀ r ∈ L, M.2 9 r = 17 ∨ M.2 9 r = 18) : fm_holder_147 mFU B (Int32.ofNat n) (-1) 0 0 = some (hEnd (nwT M n) (L.foldl (hSt M) (-1, 0)), B) := by
  have key := loopE (σ := Int32 × Int32) (β := Int32 × mSt) (N := L.length) (F := fun k st i => fm_holder_147 k B (Int32.ofNat n) st.1 st.2 (Int32.ofNat i)) (R := some (hEnd (nwT M n) (L.foldl (hSt M) (-1, 0)), B)) (fun i st => st = (L.take i).foldl (hSt M) (-1, 0))
    (fun k st hI => by
      rw [List.take_length] at hI
      show fm_holder_147 (k + 1) B _ st.1 st.2 (Int32.ofNat L.length) = _
      rw [fm_holder_147, hH.1, if_pos ((jI_le (by omega) (by omega)).mpr (Nat.le_refl _)), ← hI]
      unfold fm_holder_354 fm_holder_355 hEnd
      by_cases h1 : st.1 = -1
      · rw [if_pos h1, if_neg (fun q => q.1 h1)]
      · rw [if_neg h1, m_nowOf e hn, bd_s]
        by_cases h2 : st.2 ≤ nwT M n
        · rw [if_pos h2, if_neg (fun q => absurd q.2 (Int32.not_lt.mpr h2))]
        · rw [if_neg h2, if_pos ⟨h1, Int32.not_le.mp h2⟩])
    (fun k st i hi hI => Or.inl (by
      have hr : L[i] < 1000 := hb _ (List.getElem_mem hi)
      have hsr := hs _ (List.getElem_mem hi)
      have hone : Int32.ofNat i + 1 = Int32.ofNat (i + 1) := jI_add i 1
      have h60 := hH.2 i hi
      show ∃ st', _ ∧ fm_holder_147 (k + 1) B _ st.1 st.2 (Int32.ofNat i) = fm_holder_147 k B _ _ _ _
      refine ⟨hSt M st L[i], by rw [take_app hi, List.foldl_append, ← hI]; rfl, ?_⟩
      rw [fm_holder_147, hH.1, if_neg (fun q => absurd ((jI_le (by omega) (by omega)).mp q) (by omega)), ck_n (by omega) (by omega), lt_d, rd_n _ _ (by omega), h60, m_nodeOf hr, bd_s]
      unfold fm_holder_190 fm_holder_191 fm_holder_210 fm_holder_215 fm_holder_246 fm_holder_296 fm_holder_329 hSt
      have hl31 : L[i] < 2147483648 := by omega
      simp only [ck_n hr hl31, rd_e e (show 9 < 47 by decide) hl31, rd_e e (show 12 < 47 by decide) hl31, rd_e e (show 14 < 47 by decide) hl31, m_nodeOf hr, bd_s, lt_d, hone]
      have hnode : Int32.ofNat (rN L[i]) ≠ -1 := jI_ne (by have := rN_lt hr; omega)
      generalize M.2 14 L[i] = tm at *
      generalize M.2 12 L[i] = vv at *
      generalize Int32.ofNat (rN L[i]) = nd at *
      obtain ⟨who, till⟩ := st
      show (if who = nd then _ else _) = _
      have tl : (till ≤ tm) ↔ ¬ tm < till := Int32.not_lt.symm
      by_cases c1 : who = nd
      · have c2 : ¬ who = -1 := c1 ▸ hnode
        by_cases c3 : tm < till
        · have c4 : ¬ till ≤ tm := fun q => tl.mp q c3
          by_cases c5 : M.2 9 L[i] = 18
          · simp [c1, c3, c4, c5, hnode]
          · by_cases c6 : tm + vv ≤ till
            · have c7 : ¬ till < tm + vv := Int32.not_lt.mpr c6
              simp [c1, c3, c4, c5, c6, c7, hnode]
            · have c7 : till < tm + vv := Int32.not_le.mp c6
              simp [c1, c3, c4, c5, c6, c7, hnode]
        · have c4 : till ≤ tm := tl.mpr c3
          by_cases c5 : M.2 9 L[i] = 18
          · simp [c1, c3, c4, c5, hnode]
          · simp [c1, c3, c4, c5, hnode]
      · by_cases c2 : who = -1
        · have c8 : ¬ (-1 : Int32) = nd := fun q => hnode q.symm
          by_cases c5 : M.2 9 L[i] = 18
          · simp [c2, c5, c8]
          · simp [c2, c5, c8]
        · by_cases c3 : tm < till
          · have c4 : ¬ till ≤ tm := fun q => tl.mp q c3
            by_cases c5 : M.2 9 L[i] = 18
            · simp [c1, c2, c3, c4, c5]
            · simp [c1, c2, c3, c4, c5]
          · have c4 : till ≤ tm := tl.mpr c3
            by_cases c5 : M.2 9 L[i] = 18
            · simp [c1, c2, c3, c4, c5]
            · simp [c1, c2, c3, c4, c5]))
    L.length 0 mFU (-1, 0) (by omega) (Nat.lt_of_le_of_lt hL (by decide)) rfl
  exact key
theorem m_holder (e : mEx sc M A) (h2 : lAt M n l) (h3 : tOk M) (h23 : M.2 23 n = Int32.ofNat l.length) (o : Int32) : ∃ B, fm_holder A (Int32.ofNat n) o = some (hEnd (nwT M n) ((clL M l o).foldl (hSt M) (-1, 0)), B) ∧ mEx (fun k => k = 59 ∨ k = 60) A B := by
  have hle := h2.2.1
  have hn4 := h2.1
  unfold fm_holder
  rw [lt_d]
  obtain ⟨b, q1, q2⟩ := loopI (σ := mSt) (β := Int32 × mSt) (N := l.length) (F := fun k B i => fm_holder_7 k B (Int32.ofNat n) o (Int32.ofNat i)) (Q := fun b => ∃ B, b = (hEnd (nwT M n) ((clL M l o).foldl (hSt M) (-1, 0)), B) ∧ mEx (fun k => k = 59 ∨ k = 60) A B)
    (fun i B => mEx (fun k => k = 59 ∨ k = 60) A B ∧ inH B (srt (rK M) ((l.take i).filter (fun r => decide ((M.2 9 r = 17 ∨ M.2 9 r = 18) ∧ M.2 10 r = o)))))
    (fun k B hI => by
      rw [List.take_length] at hI
      have eB : mEx sc M B := mEx_trans e (mEx_mono hI.1 (fun j hj => by unfold sc; rcases hj with hj | hj <;> omega))
      show ∃ b, fm_holder_7 (k + 1) B _ o (Int32.ofNat l.length) = some b ∧ _
      rw [fm_holder_7, ck_n hn4 (by omega), rd_e eB (by decide) (by omega), h23, if_pos ((jI_le (by omega) (by omega)).mpr (Nat.le_refl _)), m_hol147 eB hn4 hI.2 (by rw [len_srt]; exact Nat.le_trans (List.length_filter_le _ _) hle) (fun r hr => lAt_mem h2 (List.mem_filter.mp (mem_srt.mp hr)).1) (fun r hr => by
        have := (List.mem_filter.mp (mem_srt.mp hr)).2
        simp at this
        exact this.1)]
      exact ⟨_, rfl, B, rfl, hI.1⟩)
    (fun k B i hi hI => Or.inl (by
      have hr := (h2.2.2 i hi).2
      have eB : mEx sc M B := mEx_trans e (mEx_mono hI.1 (fun j hj => by unfold sc; rcases hj with hj | hj <;> omega))
      have hone : Int32.ofNat i + 1 = Int32.ofNat (i + 1) := jI_add i 1
      have g133 : ∀ D, fm_holder_133 (fm_holder_7 k) D (Int32.ofNat n) o (Int32.ofNat i) = fm_holder_7 k D (Int32.ofNat n) o (Int32.ofNat (i + 1)) := fun D => by
        unfold fm_holder_133; rw [lt_d, hone]
      have g49 : (M.2 9 l[i] = 17 ∨ M.2 9 l[i] = 18) → ∃ st', (mEx (fun k => k = 59 ∨ k = 60) A st' ∧ inH st' (srt (rK M) ((l.take (i + 1)).filter (fun r => decide ((M.2 9 r = 17 ∨ M.2 9 r = 18) ∧ M.2 10 r = o))))) ∧ fm_holder_49 (fm_holder_7 k) B (Int32.ofNat n) o (Int32.ofNat i) (Int32.ofNat l[i]) = fm_holder_7 k st' (Int32.ofNat n) o (Int32.ofNat (i + 1)) := fun hso => by
        unfold fm_holder_49
        rw [ck_n hr (by omega), rd_e eB (by decide) (by omega), srt_step _ hi]
        by_cases c : M.2 10 l[i] = o
        · rw [if_pos c, lt_d, hI.2.1, decide_eq_true ⟨hso, c⟩]
          obtain ⟨D, c1, c2, c3⟩ := m_holGo (M := M) h3 (L := srt (rK M) ((l.take i).filter (fun r => decide ((M.2 9 r = 17 ∨ M.2 9 r = 18) ∧ M.2 10 r = o)))) hr (flt_len h2 _ hi) (flt_lt h2 _) (sdl_srt _ _) (fm_holder_7 k) (Int32.ofNat n) o (Int32.ofNat i) _ mFU B eB hI.2.1 (Nat.le_refl _) (Nat.lt_trans (flt_len h2 _ hi) (by decide)) (fun j hj _ => hI.2.2 j hj) (fun j hj hd => absurd hj (by omega)) (fun j hj hd => absurd hj (by omega))
          exact ⟨D, ⟨mEx_trans hI.1 c2, c3⟩, by rw [c1, g133]⟩
        · rw [if_neg c, g133, decide_eq_false (fun q => c q.2)]
          exact ⟨B, hI, rfl⟩
      show ∃ st', _ ∧ fm_holder_7 (k + 1) B _ o (Int32.ofNat i) = _
      rw [fm_holder_7, ck_n hn4 (by omega), rd_e eB (by decide) (by omega), h23, if_neg (fun q => absurd ((jI_le (by omega) (by omega)).mp q) (by omega)), m_rowAtL eB h2 hi, bd_s, ck_n hr (by omega), rd_e eB (by decide) (by omega)]
      by_cases c1 : M.2 9 l[i] = 17
      · rw [if_pos c1]; exact g49 (Or.inl c1)
      · rw [if_neg c1, ck_n hr (by omega)]
        by_cases c2 : M.2 9 l[i] = 18
        · rw [if_pos c2]; exact g49 (Or.inr c2)
        · rw [if_neg c2, g133, srt_step _ hi, decide_eq_false (fun q => q.1.elim c1 c2)]
          exact ⟨B, hI, rfl⟩))
    l.length 0 mFU (pu A 59 0) (by omega) (Nat.lt_of_le_of_lt hle (by decide)) ⟨mEx_pu (by simp) _, pu_s _ _ _, fun i hi => absurd hi (by simp [srt])⟩
  obtain ⟨B, q3, q4⟩ := q2
  exact ⟨B, by rw [← q3]; exact q1, q4⟩
end R

-- part 39: the class's texts
/-- a line of links -/
def lkd (nx : Nat → Int32) : Nat → List Nat → Prop
  | prev, [] => nx prev = 0
  | prev, r :: L => nx prev = Int32.ofNat (r + 1) ∧ lkd nx (r + 1) L
theorem lkd_cong {nx nx' : Nat → Int32} : ∀ {L : List Nat} {prev : Nat}, nx' prev = nx prev → (∀ q ∈ L, nx' (q + 1) = nx (q + 1)) → lkd nx prev L → lkd nx' prev L := by
  intro L
  induction L with
  | nil => intro prev h _ h2; exact h.trans h2
  | cons r L ih => intro prev h h1 h2; exact ⟨h.trans h2.1, ih (h1 r List.mem_cons_self) (fun q hq => h1 q (List.mem_cons_of_mem _ hq)) h2.2⟩
theorem lkd_head {nx : Nat → Int32} {L : List Nat} {r : Nat} (h : lkd nx 0 L) (hr : r ∉ L) : lkd (upd (upd nx (r + 1) (nx 0)) 0 (Int32.ofNat (r + 1))) 0 (r :: L) := by
  refine ⟨upd_s _ _ _, ?_⟩
  cases L with
  | nil =>
    show upd (upd nx (r + 1) (nx 0)) 0 _ (r + 1) = 0
    rw [upd_o _ _ (by omega), upd_s]; exact h
  | cons q L =>
    refine ⟨by rw [upd_o _ _ (by omega), upd_s]; exact h.1, ?_⟩
    refine lkd_cong ?_ ?_ h.2
    · have : q ≠ r := fun e => hr (e ▸ List.mem_cons_self)
      rw [upd_o _ _ (by omega), upd_o _ _ (by omega)]
    · intro p hp
      have : p ≠ r := fun e => hr (e ▸ List.mem_cons_of_mem _ hp)
      rw [upd_o _ _ (by omega), upd_o _ _ (by omega)]
theorem lkd_insA {nx : Nat → Int32} {t r : Nat} (htr : t ≠ r) : ∀ {L : List Nat} {prev : Nat}, L.Nodup → t ∈ L → r ∉ L → prev ≠ t + 1 → prev ≠ r + 1 → lkd nx prev L → lkd (upd (upd nx (r + 1) (nx (t + 1))) (t + 1) (Int32.ofNat (r + 1))) prev (insA t r L) := by
  intro L
  induction L with
  | nil => intro prev _ h; cases h
  | cons q L ih =>
    intro prev hn ht hr h1 h2 h
    have hn' := List.nodup_cons.mp hn
    have hq : q ≠ r := fun e => hr (e ▸ List.mem_cons_self)
    have hr' : r ∉ L := fun e => hr (List.mem_cons_of_mem _ e)
    unfold insA
    by_cases e : q = t
    · subst e
      rw [if_pos rfl]
      refine ⟨by rw [upd_o _ _ h1, upd_o _ _ h2]; exact h.1, upd_s _ _ _, ?_⟩
      cases L with
      | nil =>
        show upd (upd nx (r + 1) (nx (q + 1))) (q + 1) _ (r + 1) = 0
        rw [upd_o _ _ (by omega), upd_s]; exact h.2
      | cons p L =>
        refine ⟨by rw [upd_o _ _ (by omega), upd_s]; exact h.2.1, lkd_cong ?_ ?_ h.2.2⟩
        · have a1 : p ≠ r := fun e => hr' (e ▸ List.mem_cons_self)
          have a2 : p ≠ q := fun e => hn'.1 (e ▸ List.mem_cons_self)
          rw [upd_o _ _ (by omega), upd_o _ _ (by omega)]
        · intro x hx
          have a1 : x ≠ r := fun e => hr' (e ▸ List.mem_cons_of_mem _ hx)
          have a2 : x ≠ q := fun e => hn'.1 (e ▸ List.mem_cons_of_mem _ hx)
          rw [upd_o _ _ (by omega), upd_o _ _ (by omega)]
    · rw [if_neg e]
      refine ⟨by rw [upd_o _ _ h1, upd_o _ _ h2]; exact h.1, ih hn'.2 ?_ hr' (by omega) (by omega) h.2⟩
      rcases List.mem_cons.mp ht with h5 | h5
      · exact absurd h5.symm e
      · exact h5
/-- the text's own cells -/
def txA (S : cSt) (tx bk : Nat) : Prop := (kK S tx = 10 ∧ kR S tx 0 = some (tx + 1) ∧ kR S tx 2 = some bk ∧ kR S tx 3 = some (tx + 2) ∧ kR S tx 4 = some (tx + 3)) ∧ (kK S (tx + 1) = 30 ∧ kL S (tx + 1) = 1000 ∧ kK S (tx + 2) = 20 ∧ kL S (tx + 2) = 1001 ∧ kK S (tx + 3) = 20 ∧ kL S (tx + 3) = 1001)
def inT (tx : Nat) : Nat → Prop := fun a => tx ≤ a ∧ a < tx + 4
theorem wI_sI2 (S : cSt) {a b : Nat} (i : Nat) (f g : Nat → Int32) (x : Int32) (h : a ≠ b) : cWi (sI (sI S a f) b g) a i x = sI (sI S a (upd f i x)) b g := by
  rw [cWi_sI, kI_sIo _ _ h, kI_sI]
  unfold sI
  congr 4
  funext c
  unfold upr
  by_cases h1 : c = a
  · subst h1; simp [h]
  · simp [h1]
theorem exN {α : Type} {c : Prop} [Decidable c] {A B : Option α} {Q : α → Prop} (h : ¬ c) (hB : ∃ b, B = some b ∧ Q b) : ∃ b, (if c then A else B) = some b ∧ Q b := by rw [if_neg h]; exact hB
theorem exY {α : Type} {c : Prop} [Decidable c] {A B : Option α} {Q : α → Prop} (h : c) (hA : ∃ b, A = some b ∧ Q b) : ∃ b, (if c then A else B) = some b ∧ Q b := by rw [if_pos h]; exact hA
section V
variable {M : mSt} {ra : Nat → Nat} {sl ch : Nat → Int32} {made : Nat → Prop} {mkO : Nat → Option Nat} {S S' : cSt} {bk la va ua up vb tx : Nat} {l : List Nat} {W : Nat → Prop}
/-- the rows of a text that a view has -/
def apP (l : List Nat) (up r : Nat) : Bool := decide (r ∈ l.take up)
def tcL (M : mSt) (ch : Nat → Int32) (l : List Nat) (up c : Nat) : List Nat := (chL M ch l c).filter (apP l up)
/-- inserts and erases name inserts that stand earlier -/
def tcOk (M : mSt) (ch : Nat → Int32) (l : List Nat) (up c : Nat) : Prop := ∀ i (h : i < (chL M ch l c).length), apP l up (chL M ch l c)[i] = true → (M.2 9 (chL M ch l c)[i] = 9 ∧ (M.2 13 (chL M ch l c)[i] = 0 ∨ ∃ t, rOf (M.2 13 (chL M ch l c)[i]) = some t ∧ t ∈ ((chL M ch l c).take i).filter (apP l up) ∧ M.2 9 t = 9)) ∨ (M.2 9 (chL M ch l c)[i] = 10 ∧ ∃ t, rOf (M.2 13 (chL M ch l c)[i]) = some t ∧ t ∈ ((chL M ch l c).take i).filter (apP l up) ∧ M.2 9 t = 9)
def inP9 (M : mSt) (r : Nat) : Bool := decide (M.2 9 r = 9)
/-- what stands, of the rows P -/
def sdP (M : mSt) (l : List Nat) (up : Nat) (P : List Nat) (r : Nat) : Bool := gv M l up r && !(P.any (fun e => decide (M.2 9 e = 10) && (decide (M.2 13 e = Int32.ofNat (rNm r)) && gv M l up e)))
theorem cPi_cPi (S : cSt) (a k : Nat) (x y : Int32) : cPi (cPi S a k x) a k y = cPi S a k y := by
  unfold cPi
  congr 2
  funext b j
  unfold up2
  by_cases h : b = a ∧ j = k <;> simp [h]
theorem kF_cPi (S : cSt) (a k : Nat) (x : Int32) : kF (cPi S a k x) a k = x := by
  show up2 S.2.1 a k x a k = x
  unfold up2
  rw [if_pos ⟨rfl, rfl⟩]
theorem kF_cPo (S : cSt) {a b k j : Nat} (x : Int32) (h : ¬ (b = a ∧ j = k)) : kF (cPi S a k x) b j = kF S b j := by
  show up2 S.2.1 a k x b j = S.2.1 b j
  unfold up2
  rw [if_neg h]
theorem k_gather (hB : cBk M ra sl ch made mkO S bk) (hT : txA S tx bk) (hsep : bk + 5 ≤ tx) {Ln : List Nat} {gn : Nat → Bool} (hn : Ln.length ≤ 1000) (hm : ∀ r ∈ Ln, r < 1000 ∧ made r) (hl : lkd (kI S (tx + 2)) 0 Ln) (hg : ∀ r ∈ Ln, kI S (tx + 3) (r + 1) = b2 (gn r = false)) : ∃ S', fk_9_gather S tx = some S' ∧ cEq (fun a => a = tx ∨ a = tx + 1) S S' ∧ kR S' tx = kR S tx ∧ (∀ k, k ≠ 1 → kF S' tx k = kF S tx k) ∧ kF S' tx 1 = Int32.ofNat (Ln.filter gn).length ∧ ∀ i (h : i < (Ln.filter gn).length), kO S' (tx + 1) i = some (ra (Ln.filter gn)[i]) := by
  obtain ⟨⟨t0, t1, t2, t3, t4⟩, u1, u1', u2, u2', u3, u3'⟩ := hT
  obtain ⟨⟨b1, b2', -⟩, ⟨b5, b6, -⟩, -⟩ := id hB
  have key : ∀ (R P : List Nat) (fu : Nat) (sh : Nat → Option Nat) (prev : Nat), R.length < fu → P.length + R.length ≤ 1000 → (∀ r ∈ R, r < 1000 ∧ made r) → (∀ r ∈ R, kI S (tx + 3) (r + 1) = b2 (gn r = false)) → lkd (kI S (tx + 2)) prev R → (∀ i (h : i < (P.filter gn).length), sh i = some (ra (P.filter gn)[i])) → ∃ S', fk_9_gather_14 fu (cPi (sO S (tx + 1) sh) tx 1 (Int32.ofNat (P.filter gn).length)) tx (kI S (tx + 2) prev) (Int32.ofNat P.length) = some S' ∧ cEq (fun a => a = tx ∨ a = tx + 1) S S' ∧ kR S' tx = kR S tx ∧ (∀ k, k ≠ 1 → kF S' tx k = kF S tx k) ∧ kF S' tx 1 = Int32.ofNat ((P ++ R).filter gn).length ∧ ∀ i (h : i < ((P ++ R).filter gn).length), kO S' (tx + 1) i = some (ra ((P ++ R).filter gn)[i]) := by
    intro R
    induction R with
    | nil =>
      intro P fu sh prev hf hle hmR hgR hl hsh
      obtain ⟨fu, rfl⟩ : ∃ q, fu = q + 1 := ⟨fu - 1, by simp at hf; omega⟩
      have h0 : kI S (tx + 2) prev = 0 := hl
      rw [fk_9_gather_14, h0]
      refine ⟨cPi (sO S (tx + 1) sh) tx 1 (Int32.ofNat (P.filter gn).length), ?_, cEq_trans (cEq_sO sh (Or.inr rfl)) (cEq_cPi _ (Or.inl rfl)), rfl, fun k hk => kF_cPo _ _ (fun q => hk q.2), ?_, ?_⟩
      · by_cases c : (1000 : Int32) ≤ Int32.ofNat P.length
        · rw [if_pos c]; rfl
        · rw [if_neg c, if_pos (by decide)]; rfl
      · rw [List.append_nil]; exact kF_cPi _ _ _ _
      · rw [List.append_nil]
        intro i hi
        show kO (sO S (tx + 1) sh) (tx + 1) i = _
        rw [kO_sO]; exact hsh i hi
    | cons r R ih =>
      intro P fu sh prev hf hle hmR hgR hl hsh
      obtain ⟨fu, rfl⟩ : ∃ q, fu = q + 1 := ⟨fu - 1, by simp at hf; omega⟩
      obtain ⟨hl1, hl2⟩ := hl
      obtain ⟨hr, hmd⟩ := hmR r List.mem_cons_self
      have hgr := hgR r List.mem_cons_self
      obtain ⟨k1, k9, -⟩ := hB.2.2.1 r hr hmd
      rw [List.length_cons] at hf hle
      have hpl : (P.filter gn).length ≤ P.length := List.length_filter_le _ _
      rw [fk_9_gather_14, hl1]
      refine exN (fun q => absurd ((jI_le (a := 1000) (b := P.length) (by omega) (by omega)).mp q) (by omega)) ?_
      refine exN (jI_p (a := r + 1) (by omega) (by omega)) ?_
      have x4 : kR (cPi (sO S (tx + 1) sh) tx 1 (Int32.ofNat (P.filter gn).length)) tx 4 = some (tx + 3) := t4
      have x3 : ∀ k sh', kR (cPi (sO S (tx + 1) sh') tx 1 k) tx 3 = some (tx + 2) := fun _ _ => t3
      have y3 : kI (cPi (sO S (tx + 1) sh) tx 1 (Int32.ofNat (P.filter gn).length)) (tx + 3) = kI S (tx + 3) := rfl
      have y2 : ∀ k sh', kI (cPi (sO S (tx + 1) sh') tx 1 k) (tx + 2) = kI S (tx + 2) := fun _ _ => rfl
      have z0 : ∀ k sh', kK (cPi (sO S (tx + 1) sh') tx 1 k) tx = 10 := fun _ _ => t0
      have z2 : ∀ k sh', kK (cPi (sO S (tx + 1) sh') tx 1 k) (tx + 2) = 20 := fun _ _ => u2
      have z2' : ∀ k sh', kL (cPi (sO S (tx + 1) sh') tx 1 k) (tx + 2) = 1001 := fun _ _ => u2'
      have z3 : kK (cPi (sO S (tx + 1) sh) tx 1 (Int32.ofNat (P.filter gn).length)) (tx + 3) = 20 := u3
      have z3' : kL (cPi (sO S (tx + 1) sh) tx 1 (Int32.ofNat (P.filter gn).length)) (tx + 3) = 1001 := u3'
      have hone : Int32.ofNat P.length + 1 = Int32.ofNat (P.length + 1) := jI_add P.length 1
      have go : ∀ k sh', fk_9_gather_64 (fk_9_gather_14 fu) (cPi (sO S (tx + 1) sh') tx 1 k) tx (Int32.ofNat (r + 1)) (Int32.ofNat P.length) = fk_9_gather_14 fu (cPi (sO S (tx + 1) sh') tx 1 k) tx (kI S (tx + 2) (r + 1)) (Int32.ofNat (P.length + 1)) := fun k sh' => by
        unfold fk_9_gather_64
        rw [ckk_y (z0 _ _), x3, bd_s, ckk_y (z2 _ _), z2', ck_n (by omega) (by omega), lt_d, jI_cl (by omega), y2, lt_d, hone]
      rw [ckk_y (z0 _ _), x4, bd_s, ckk_y z3, z3', ck_n (by omega) (by omega), jI_cl (by omega), y3, hgr]
      have happ : P ++ r :: R = (P ++ [r]) ++ R := by simp
      have hP1 : (P ++ [r]).length = P.length + 1 := by simp
      cases hgn : gn r
      · rw [if_neg bFF, go]
        have e1 : (P ++ [r]).filter gn = P.filter gn := by rw [List.filter_append]; simp [hgn]
        have := ih (P ++ [r]) fu sh (r + 1) (by omega) (by rw [hP1]; omega) (fun q hq => hmR q (List.mem_cons_of_mem _ hq)) (fun q hq => hgR q (List.mem_cons_of_mem _ hq)) hl2 (by rw [e1]; exact hsh)
        rw [e1, hP1, ← happ] at this
        exact this
      · have e1 : (P ++ [r]).filter gn = P.filter gn ++ [r] := by rw [List.filter_append]; simp [hgn]
        have hsub : Int32.ofNat (r + 1) - (1 : Int32) = Int32.ofNat r := by show Int32.ofNat (r + 1) - Int32.ofNat 1 = _; rw [jI_sub (by omega)]; rfl
        have x0 : kR (cPi (sO S (tx + 1) sh) tx 1 (Int32.ofNat (P.filter gn).length)) tx 0 = some (tx + 1) := t1
        have x2 : kR (cPi (sO S (tx + 1) sh) tx 1 (Int32.ofNat (P.filter gn).length)) tx 2 = some bk := t2
        have xb : kK (cPi (sO S (tx + 1) sh) tx 1 (Int32.ofNat (P.filter gn).length)) bk = 1 := b1
        have xb0 : kR (cPi (sO S (tx + 1) sh) tx 1 (Int32.ofNat (P.filter gn).length)) bk 0 = some (bk + 1) := b2'
        have xb1 : kK (cPi (sO S (tx + 1) sh) tx 1 (Int32.ofNat (P.filter gn).length)) (bk + 1) = 30 := b5
        have xb1' : kL (cPi (sO S (tx + 1) sh) tx 1 (Int32.ofNat (P.filter gn).length)) (bk + 1) = 1000 := b6
        have xO : kO (cPi (sO S (tx + 1) sh) tx 1 (Int32.ofNat (P.filter gn).length)) (bk + 1) r = some (ra r) := by
          show kO (sO S (tx + 1) sh) (bk + 1) r = _
          rw [kO_sOo _ _ (by omega)]; exact k1
        have xs : kK (cPi (sO S (tx + 1) sh) tx 1 (Int32.ofNat (P.filter gn).length)) (tx + 1) = 30 := u1
        have xs' : kL (cPi (sO S (tx + 1) sh) tx 1 (Int32.ofNat (P.filter gn).length)) (tx + 1) = 1000 := u1'
        have xr : kK (cPi (sO S (tx + 1) sh) tx 1 (Int32.ofNat (P.filter gn).length)) (ra r) = 9 := k9
        have hwo : ∀ o, cWo (cPi (sO S (tx + 1) sh) tx 1 (Int32.ofNat (P.filter gn).length)) (tx + 1) (P.filter gn).length o = cPi (sO S (tx + 1) (upo sh (P.filter gn).length o)) tx 1 (Int32.ofNat (P.filter gn).length) := fun o => by
          rw [← wO_sO]; rfl
        rw [if_pos bTF, ckk_y (z0 _ _), x0, bd_s, ckk_y (z0 _ _), ckk_y (z0 _ _), x2, bd_s, ckk_y xb, xb0, bd_s, ckk_y xb1, xb1', hsub, ck_n hr (by omega), lt_d, jI_cl (by omega), xO, ckk_y xs, xs', kF_cPi, ck_n (by omega) (by omega)]
        show ∃ S', ckk (cPi (sO S (tx + 1) sh) tx 1 (Int32.ofNat (P.filter gn).length)) (ra r) 9 _ = _ ∧ _
        rw [ckk_y xr, lt_d, jI_cl (by omega), hwo, ckk_y (z0 _ _), ckk_y (z0 _ _), kF_cPi, lt_d, cPi_cPi, show Int32.ofNat (P.filter gn).length + 1 = Int32.ofNat ((P.filter gn).length + 1) from jI_add _ 1, go]
        have := ih (P ++ [r]) fu (upo sh (P.filter gn).length (some (ra r))) (r + 1) (by omega) (by rw [hP1]; omega) (fun q hq => hmR q (List.mem_cons_of_mem _ hq)) (fun q hq => hgR q (List.mem_cons_of_mem _ hq)) hl2 (by
          rw [e1]
          intro i hi
          by_cases ei : i = (P.filter gn).length
          · subst ei
            rw [upo_s, List.getElem_append_right (Nat.le_refl _)]
            simp
          · have hi2 : i < (P.filter gn).length := by simp at hi; omega
            rw [upo_o _ _ ei, hsh i hi2, List.getElem_append_left hi2])
        rw [e1, hP1, ← happ] at this
        rw [show (P.filter gn ++ [r]).length = (P.filter gn).length + 1 by simp] at this
        exact this
  have := key Ln [] mFU (kO S (tx + 1)) 0 (Nat.lt_of_le_of_lt hn (by decide)) (by simpa using hn) hm hg hl (fun i hi => absurd hi (by simp))
  unfold fk_9_gather
  have q0 : kK (cPi S tx 1 0) tx = 10 := t0
  have q3 : kR (cPi S tx 1 0) tx 3 = some (tx + 2) := t3
  have q2 : kK (cPi S tx 1 0) (tx + 2) = 20 := u2
  have q2' : kL (cPi S tx 1 0) (tx + 2) = 1001 := u2'
  rw [ckk_y t0, lt_d, ckk_y q0, q3, bd_s, ckk_y q2, q2']
  rw [sO_id] at this
  exact this
end V

-- part 40: a text read
section V
variable {M : mSt} {ra : Nat → Nat} {sl ch : Nat → Int32} {made : Nat → Prop} {mkO : Nat → Option Nat} {S S' : cSt} {bk la va ua up vb tx : Nat} {l : List Nat} {W : Nat → Prop}
def tlL (M : mSt) (ch : Nat → Int32) (l : List Nat) (up c : Nat) : List Nat := txL M ((tcL M ch l up c).filter (inP9 M))
def tsL (M : mSt) (ch : Nat → Int32) (l : List Nat) (up c : Nat) : List Nat := (tlL M ch l up c).filter (sdP M l up (tcL M ch l up c))
theorem chL_nd (h : l.Nodup) (c : Nat) : (chL M ch l c).Nodup := by
  unfold chL
  exact (perm_srt _ _).nodup_iff.mpr (h.sublist List.filter_sublist)
theorem sI_sI2 (S : cSt) {a b : Nat} (f g : Nat → Int32) (x : Nat → Int32) (h : a ≠ b) : sI (sI (sI S a f) b g) a x = sI (sI S a x) b g := by
  unfold sI
  congr 4
  funext c
  unfold upr
  by_cases h1 : c = a
  · subst h1; simp [h]
  · simp [h1]
theorem txA_eq (h : txA S tx bk) (e : cEq W S S') (h1 : kR S' tx = kR S tx) : txA S' tx bk := by
  unfold txA
  simp only [e.1, e.2.1, h1]
  exact h
theorem tc_in {c : Nat} (ho : tcOk M ch l up c) {i : Nat} (hi : i ≤ (chL M ch l c).length) {e : Nat} (he : e ∈ ((chL M ch l c).take i).filter (apP l up)) (h10 : M.2 9 e = 10) : ∃ t, rOf (M.2 13 e) = some t ∧ t ∈ ((chL M ch l c).take i).filter (apP l up) ∧ M.2 9 t = 9 := by
  obtain ⟨h1, h2⟩ := List.mem_filter.mp he
  obtain ⟨j, hj, ej⟩ := List.mem_iff_getElem.mp h1
  rw [List.length_take] at hj
  rw [List.getElem_take] at ej
  subst ej
  rcases ho j (by omega) h2 with ⟨h9, -⟩ | ⟨-, t, k1, k2, k3⟩
  · rw [h9] at h10; exact absurd h10 (by decide)
  · refine ⟨t, k1, ?_, k3⟩
    obtain ⟨m1, m2⟩ := List.mem_filter.mp k2
    refine List.mem_filter.mpr ⟨?_, m2⟩
    have : (chL M ch l c).take j = ((chL M ch l c).take i).take j := by rw [List.take_take, Nat.min_eq_left (by omega)]
    rw [this] at m1
    exact List.mem_of_mem_take m1
set_option maxHeartbeats 4000000 in
theorem k_read {c : Nat} (hc : c < 385) (hQ : cQ M ra sl ch made mkO S bk la va ua up vb l) (hT : txA S tx bk) (hsep : bk + 5 ≤ tx ∧ tx + 4 ≤ la ∧ (ua < tx ∨ tx + 4 ≤ ua) ∧ (va < tx ∨ tx + 4 ≤ va)) (ho : tcOk M ch l up c) : ∃ S', fk_9_read S tx va (Int32.ofNat c) = some S' ∧ cEq (inT tx) S S' ∧ kR S' tx = kR S tx ∧ (∀ k, k ≠ 1 → kF S' tx k = kF S tx k) ∧ kF S' tx 1 = Int32.ofNat (tsL M ch l up c).length ∧ (∀ i (h : i < (tsL M ch l up c).length), kO S' (tx + 1) i = some (ra (tsL M ch l up c)[i])) ∧ lkd (kI S' (tx + 2)) 0 (tlL M ch l up c) ∧ ∀ r ∈ tlL M ch l up c, kI S' (tx + 3) (r + 1) = b2 (sdP M l up (tcL M ch l up c) r = false) := by
  have hsz := hQ.2.2.2.2.2
  obtain ⟨⟨t0, t1, t2, t3, t4⟩, u1, u1', u2, u2', u3, u3'⟩ := id hT
  have hnd := chL_nd (M := M) (ch := ch) hQ.2.2.2.1.1 c
  have wW : ∀ f g, cQ M ra sl ch made mkO (sI (sI S (tx + 2) f) (tx + 3) g) bk la va ua up vb l := fun f g => cQ_w (W := inT tx) hQ (cEq_trans (cEq_sI f (show inT tx (tx + 2) by unfold inT; omega)) (cEq_sI g (show inT tx (tx + 3) by unfold inT; omega))) (fun a ha => by unfold inT at ha; omega)
  have hrow : ∀ r, r ∈ chL M ch l c → r < 1000 ∧ made r ∧ kO S (bk + 1) r = some (ra r) ∧ cRow M sl ch S r (ra r) := fun r hr => by
    obtain ⟨q1, q2⟩ := hQ.2.2.2.1.2.2 _ (chL_mem.mp hr).1
    exact ⟨q1, q2, (hQ.1.2.2.1 _ q1 q2).1, (hQ.1.2.2.1 _ q1 q2).2⟩
  have key := walkAI (σ := (Nat → Int32) × (Nat → Int32)) (β := cSt) (ra := ra) (L := chL M ch l c) (F := fun n st o => fk_9_read_17 n (sI (sI S (tx + 2) st.1) (tx + 3) st.2) tx va o) (Q := fun S' => cEq (inT tx) S S' ∧ kR S' tx = kR S tx ∧ (∀ k, k ≠ 1 → kF S' tx k = kF S tx k) ∧ kF S' tx 1 = Int32.ofNat (tsL M ch l up c).length ∧ (∀ i (h : i < (tsL M ch l up c).length), kO S' (tx + 1) i = some (ra (tsL M ch l up c)[i])) ∧ lkd (kI S' (tx + 2)) 0 (tlL M ch l up c) ∧ ∀ r ∈ tlL M ch l up c, kI S' (tx + 3) (r + 1) = b2 (sdP M l up (tcL M ch l up c) r = false))
    (fun i st => lkd st.1 0 (txL M ((((chL M ch l c).take i).filter (apP l up)).filter (inP9 M))) ∧ ∀ r ∈ ((chL M ch l c).take i).filter (apP l up), M.2 9 r = 9 → st.2 (r + 1) = b2 (sdP M l up (((chL M ch l c).take i).filter (apP l up)) r = false))
    (fun n st hI => by
      rw [List.take_length] at hI
      show ∃ b, fk_9_read_17 (n + 1) (sI (sI S (tx + 2) st.1) (tx + 3) st.2) tx va none = some b ∧ _
      rw [fk_9_read_17]
      show ∃ b, ckk (sI (sI S (tx + 2) st.1) (tx + 3) st.2) tx 10 _ = some b ∧ _
      have z0 : kK (sI (sI S (tx + 2) st.1) (tx + 3) st.2) tx = 10 := t0
      have e1 : kI (sI (sI S (tx + 2) st.1) (tx + 3) st.2) (tx + 2) = st.1 := by rw [kI_sIo _ _ (by omega), kI_sI]
      have e2 : kI (sI (sI S (tx + 2) st.1) (tx + 3) st.2) (tx + 3) = st.2 := kI_sI _ _ _
      have hmem : ∀ r ∈ tlL M ch l up c, r ∈ tcL M ch l up c ∧ M.2 9 r = 9 := fun r hr => by
        have := List.mem_filter.mp (txL_mem.mp hr)
        exact ⟨this.1, of_decide_eq_true this.2⟩
      have hlen : (tlL M ch l up c).length ≤ 1000 := by
        unfold tlL tcL
        rw [txL_len]
        exact Nat.le_trans (Nat.le_trans (List.length_filter_le _ _) (List.length_filter_le _ _)) (Nat.le_trans (chL_len c) hQ.2.2.2.1.2.1)
      obtain ⟨S', s1, s2, s2a, s2b, s3, s4⟩ := k_gather (S := sI (sI S (tx + 2) st.1) (tx + 3) st.2) (wW st.1 st.2).1 (tx := tx) hT (by omega) (Ln := tlL M ch l up c) (gn := sdP M l up (tcL M ch l up c)) hlen (fun r hr => by
        have := hrow r (List.mem_filter.mp (hmem r hr).1).1
        exact ⟨this.1, this.2.1⟩) (by rw [e1]; exact hI.1) (fun r hr => by rw [e2]; exact hI.2 r (hmem r hr).1 (hmem r hr).2)
      have s5 := s2.2.2.2.2 (tx + 2) (by intro q; rcases q with q | q <;> omega)
      have s6 := s2.2.2.2.2 (tx + 3) (by intro q; rcases q with q | q <;> omega)
      rw [ckk_y z0, s1, bd_s]
      refine ⟨S', rfl, cEq_trans (cEq_trans (cEq_sI st.1 (show inT tx (tx + 2) by unfold inT; omega)) (cEq_sI st.2 (show inT tx (tx + 3) by unfold inT; omega))) (cEq_mono s2 (fun a ha => by unfold inT; rcases ha with ha | ha <;> omega)), ?_, ?_, s3, s4, ?_, ?_⟩
      · exact s2a
      · exact s2b
      · rw [s5.2.2.1, e1]; exact hI.1
      · intro r hr
        rw [s6.2.2.1, e2]; exact hI.2 r (hmem r hr).1 (hmem r hr).2)
    (fun n st i hi hI => Or.inl (by
      have h6 := wW st.1 st.2
      obtain ⟨q1, q2, -, r9, ⟨r0, -, -, -, r5, -⟩, ⟨-, -, -, r12⟩, -⟩ := hrow _ (List.getElem_mem hi)
      have go : ∀ f g, fk_9_read_146 (fk_9_read_17 n) (sI (sI S (tx + 2) f) (tx + 3) g) tx va (some (ra (chL M ch l c)[i])) = fk_9_read_17 n (sI (sI S (tx + 2) f) (tx + 3) g) tx va (nxL ra (chL M ch l c) (i + 1)) := fun f g => by
        have h7 := wW f g
        unfold fk_9_read_146
        rw [ckk_y h7.2.2.1.1.1, h7.2.2.1.1.2.2.2.1, bd_s]
        exact k_up hc h7.1 h7.2.1 h7.2.2.2.1 hi (fun o => fk_9_read_17 n (sI (sI S (tx + 2) f) (tx + 3) g) tx va o)
      show ∃ st', _ ∧ fk_9_read_17 (n + 1) (sI (sI S (tx + 2) st.1) (tx + 3) st.2) tx va (some (ra (chL M ch l c)[i])) = fk_9_read_17 n (sI (sI S (tx + 2) _) (tx + 3) _) tx va _
      rw [fk_9_read_17]
      show ∃ st', _ ∧ ckk (sI (sI S (tx + 2) st.1) (tx + 3) st.2) va 11 _ = _
      rw [ckk_y h6.2.2.1.1.1, k_isApplied h6.1 h6.2.1 h6.2.2.1 h6.2.2.2.1 q1 q2, bd_s, take_app hi, List.filter_append]
      by_cases ha : (chL M ch l c)[i] ∈ l.take up
      · have hap : apP l up (chL M ch l c)[i] = true := decide_eq_true ha
        have hf1 : List.filter (apP l up) [(chL M ch l c)[i]] = [(chL M ch l c)[i]] := by simp [hap]
        have hPin : ∀ e ∈ ((chL M ch l c).take i).filter (apP l up), e ∈ chL M ch l c := fun e he => List.mem_of_mem_take (List.mem_filter.mp he).1
        have hnew : (chL M ch l c)[i] ∉ ((chL M ch l c).take i).filter (apP l up) := fun q => absurd ((mem_take hnd hi).mp (List.mem_filter.mp q).1) (by omega)
        have hP10 := fun e he h10 => tc_in ho (Nat.le_of_lt hi) (e := e) he h10
        have hcase := ho i hi hap
        obtain ⟨hI1, hI2⟩ := hI
        have hndP : (((chL M ch l c).take i).filter (apP l up)).Nodup := (hnd.sublist (List.take_sublist _ _)).sublist List.filter_sublist
        rw [hf1]
        generalize ((chL M ch l c).take i).filter (apP l up) = P at hPin hnew hP10 hcase hI1 hI2 hndP
        generalize hrr : (chL M ch l c)[i] = r at *
        have y0 : ∀ f g, kK (sI (sI S (tx + 2) f) (tx + 3) g) tx = 10 := fun _ _ => t0
        have y2 : ∀ f g, kR (sI (sI S (tx + 2) f) (tx + 3) g) tx 2 = some bk := fun _ _ => t2
        have y3 : ∀ f g, kR (sI (sI S (tx + 2) f) (tx + 3) g) tx 3 = some (tx + 2) := fun _ _ => t3
        have y4 : ∀ f g, kR (sI (sI S (tx + 2) f) (tx + 3) g) tx 4 = some (tx + 3) := fun _ _ => t4
        have z2 : ∀ f g, kK (sI (sI S (tx + 2) f) (tx + 3) g) (tx + 2) = 20 := fun _ _ => u2
        have z2' : ∀ f g, kL (sI (sI S (tx + 2) f) (tx + 3) g) (tx + 2) = 1001 := fun _ _ => u2'
        have z3 : ∀ f g, kK (sI (sI S (tx + 2) f) (tx + 3) g) (tx + 3) = 20 := fun _ _ => u3
        have z3' : ∀ f g, kL (sI (sI S (tx + 2) f) (tx + 3) g) (tx + 3) = 1001 := fun _ _ => u3'
        have e2 : ∀ f g, kI (sI (sI S (tx + 2) f) (tx + 3) g) (tx + 2) = f := fun f g => by rw [kI_sIo _ _ (by omega), kI_sI]
        have x9 : ∀ f g, kK (sI (sI S (tx + 2) f) (tx + 3) g) (ra r) = 9 := fun _ _ => r9
        have x0 : ∀ f g, kF (sI (sI S (tx + 2) f) (tx + 3) g) (ra r) 0 = M.2 9 r := fun _ _ => r0
        have x5 : kF (sI (sI S (tx + 2) st.1) (tx + 3) st.2) (ra r) 5 = M.2 13 r := r5
        have x12 : ∀ f g, kF (sI (sI S (tx + 2) f) (tx + 3) g) (ra r) 12 = Int32.ofNat r := fun _ _ => r12
        have hr1 : Int32.ofNat r + 1 = Int32.ofNat (r + 1) := jI_add r 1
        have sdNo : ∀ q, (¬ M.2 9 r = 10 ∨ ¬ M.2 13 r = Int32.ofNat (rNm q) ∨ gv M l up r = false) → sdP M l up (P ++ [r]) q = sdP M l up P q := fun q hq => by
          unfold sdP
          rw [List.any_append]
          have : ([r].any (fun e => decide (M.2 9 e = 10) && (decide (M.2 13 e = Int32.ofNat (rNm q)) && gv M l up e))) = false := by
            rw [List.any_cons, List.any_nil, Bool.or_false]
            rcases hq with h | h | h
            · rw [decide_eq_false h]; rfl
            · rw [decide_eq_false h]; simp
            · rw [h]; simp
          rw [this, Bool.or_false]
        -- an insert behind the link lk
        have insG : ∀ (lk : Nat) (Ln' : List Nat), lk < 1001 → M.2 9 r = 9 → lkd (upd (upd st.1 (r + 1) (st.1 lk)) lk (Int32.ofNat (r + 1))) 0 Ln' → Ln' = txL M ((P ++ [r]).filter (inP9 M)) → ∃ st' : (Nat → Int32) × (Nat → Int32), (lkd st'.1 0 (txL M ((P ++ [r]).filter (inP9 M))) ∧ ∀ q ∈ P ++ [r], M.2 9 q = 9 → st'.2 (q + 1) = b2 (sdP M l up (P ++ [r]) q = false)) ∧ fk_9_read_61 (fk_9_read_17 n) (sI (sI S (tx + 2) st.1) (tx + 3) st.2) tx va (some (ra r)) (Int32.ofNat lk) = fk_9_read_17 n (sI (sI S (tx + 2) st'.1) (tx + 3) st'.2) tx va (nxL ra (chL M ch l c) (i + 1)) := fun lk Ln' hlk h9 hl eL => by
          refine ⟨(upd (upd st.1 (r + 1) (st.1 lk)) lk (Int32.ofNat (r + 1)), upd st.2 (r + 1) (b2 (gv M l up r = false))), ⟨eL ▸ hl, fun q hq h9q => ?_⟩, ?_⟩
          · rcases List.mem_append.mp hq with hq | hq
            · have hne : q ≠ r := fun e => hnew (e ▸ hq)
              show upd st.2 (r + 1) _ (q + 1) = _
              rw [upd_o _ _ (by omega), sdNo q (Or.inl (by rw [h9]; decide))]
              exact hI2 q hq h9q
            · have : q = r := List.mem_singleton.mp hq
              subst this
              show upd st.2 (q + 1) _ (q + 1) = _
              rw [upd_s, sdNo q (Or.inl (by rw [h9]; decide))]
              have : sdP M l up P q = gv M l up q := by
                unfold sdP
                have : (P.any (fun e => decide (M.2 9 e = 10) && (decide (M.2 13 e = Int32.ofNat (rNm q)) && gv M l up e))) = false := by
                  rw [List.any_eq_false]
                  intro e he hh
                  simp at hh
                  obtain ⟨t, k1, k2, k3⟩ := hP10 e he hh.1
                  rw [hh.2.1, rOf_nm q1] at k1
                  cases k1
                  exact hnew k2
                rw [this]; simp
              rw [this]
          · unfold fk_9_read_61 fk_9_read_126
            rw [bd_s, ckk_y (x9 _ _), x0, if_pos h9, ckk_y (y0 _ _), y3, bd_s, ckk_y (x9 _ _), ckk_y (y0 _ _), bd_s, ckk_y (z2 _ _), z2', ck_n hlk (by omega), ckk_y (z2 _ _), x12, hr1, ck_n (by omega) (by omega), lt_d, jI_cl (by omega), jI_cl (by omega), e2, wI_sI2 _ _ _ _ _ (by omega)]
            rw [ckk_y (y0 _ _), y3, bd_s, ckk_y (x9 _ _), ckk_y (z2 _ _), z2', ck_n hlk (by omega), lt_d, x12, hr1, jI_cl (by omega), wI_sI2 _ _ _ _ _ (by omega)]
            have h8 := wW (upd (upd st.1 (r + 1) (st.1 lk)) lk (Int32.ofNat (r + 1))) st.2
            rw [ckk_y (y0 _ _), y4, bd_s, ckk_y (x9 _ _), ckk_y h8.2.2.1.1.1, k_isGood h8.1 h8.2.1 h8.2.2.1 h8.2.2.2.1 q1 q2, bd_s, x12, hr1]
            cases hg : gv M l up r
            · rw [if_pos bFn, ckk_y (z3 _ _), z3', ck_n (by omega) (by omega), lt_d, jI_cl (by omega), wI_sI, go]; rfl
            · rw [if_neg bTn, ckk_y (z3 _ _), z3', ck_n (by omega) (by omega), lt_d, jI_cl (by omega), wI_sI, go]; rfl
        rw [b2_t ha, if_neg n10, ckk_y (y0 _ _), y2, bd_s, ckk_y (x9 _ _), ckk_y h6.1.1.1, x5, k_rowNamed h6.1, bd_s]
        have tgt : ∀ t, rOf (M.2 13 r) = some t → t ∈ P → t < 1000 ∧ kO (sI (sI S (tx + 2) st.1) (tx + 3) st.2) (bk + 1) t = some (ra t) ∧ kK (sI (sI S (tx + 2) st.1) (tx + 3) st.2) (ra t) = 9 ∧ kF (sI (sI S (tx + 2) st.1) (tx + 3) st.2) (ra t) 12 = Int32.ofNat t := fun t _ ht => by
          obtain ⟨p1, p2, p3, p4, -, ⟨-, -, -, p5⟩, -⟩ := hrow t (hPin t ht)
          exact ⟨p1, p3, p4, p5⟩
        rcases hcase with ⟨h9, hw⟩ | ⟨h10, t, k1, k2, k3⟩
        · have hin9 : (P ++ [r]).filter (inP9 M) = P.filter (inP9 M) ++ [r] := by rw [List.filter_append]; simp [inP9, h9]
          have hndL : (txL M (P.filter (inP9 M))).Nodup := (txL_perm _ _).nodup_iff.mpr (hndP.sublist List.filter_sublist)
          have hrL : r ∉ txL M (P.filter (inP9 M)) := fun q => hnew (List.mem_filter.mp (txL_mem.mp q)).1
          rcases hw with hw0 | ⟨t, k1, k2, k3⟩
          · rw [hw0, rOf_0]
            exact insG 0 (r :: txL M (P.filter (inP9 M))) (by decide) h9 (lkd_head hI1 hrL) (by rw [hin9, txL_app]; unfold txS; rw [hw0, rOf_0])
          · obtain ⟨g1, g2, g3, g4⟩ := tgt t k1 k2
            have htr : t ≠ r := fun e => hnew (e ▸ k2)
            rw [k1]
            show ∃ st', _ ∧ cs (kO _ (bk + 1) t) _ _ = _
            rw [g2]
            show ∃ st', _ ∧ ckk _ (ra t) 9 _ = _
            rw [ckk_y g3, g4, show Int32.ofNat t + 1 = Int32.ofNat (t + 1) from jI_add t 1]
            exact insG (t + 1) (insA t r (txL M (P.filter (inP9 M)))) (by omega) h9 (lkd_insA htr hndL (txL_mem.mpr (List.mem_filter.mpr ⟨k2, decide_eq_true k3⟩)) hrL (by omega) (by omega) hI1) (by rw [hin9, txL_app]; unfold txS; rw [k1])
        · obtain ⟨g1, g2, g3, g4⟩ := tgt t k1 k2
          have hn9 : ¬ M.2 9 r = 9 := by rw [h10]; decide
          have hin9 : (P ++ [r]).filter (inP9 M) = P.filter (inP9 M) := by rw [List.filter_append]; simp [inP9, hn9]
          rw [k1]
          show ∃ st', _ ∧ cs (kO _ (bk + 1) t) _ _ = _
          rw [g2]
          show ∃ st', _ ∧ ckk _ (ra t) 9 _ = _
          rw [ckk_y g3, g4, show Int32.ofNat t + 1 = Int32.ofNat (t + 1) from jI_add t 1, hin9]
          unfold fk_9_read_61
          rw [bd_s, ckk_y (x9 _ _), x0, if_neg hn9, ckk_y h6.2.2.1.1.1, k_isGood h6.1 h6.2.1 h6.2.2.1 h6.2.2.2.1 q1 q2, bd_s]
          cases hg : gv M l up r
          · refine ⟨st, ⟨hI1, fun q hq h9q => ?_⟩, by rw [if_pos bFn, go]⟩
            rcases List.mem_append.mp hq with hq | hq
            · rw [sdNo q (Or.inr (Or.inr hg))]; exact hI2 q hq h9q
            · have : q = r := List.mem_singleton.mp hq
              subst this; exact absurd h9q hn9
          · refine ⟨(st.1, upd st.2 (t + 1) 1), ⟨hI1, fun q hq h9q => ?_⟩, ?_⟩
            · rcases List.mem_append.mp hq with hq | hq
              · by_cases eq : q = t
                · subst eq
                  show upd st.2 (q + 1) 1 (q + 1) = _
                  rw [upd_s, b2_t]
                  unfold sdP
                  have : ((P ++ [r]).any (fun e => decide (M.2 9 e = 10) && (decide (M.2 13 e = Int32.ofNat (rNm q)) && gv M l up e))) = true := List.any_eq_true.mpr ⟨r, List.mem_append.mpr (Or.inr (List.mem_singleton.mpr rfl)), by rw [decide_eq_true h10, decide_eq_true (rOf_inv k1), hg]; rfl⟩
                  rw [this]; simp
                · show upd st.2 (t + 1) 1 (q + 1) = _
                  rw [upd_o _ _ (by omega), sdNo q (Or.inr (Or.inl (fun e => eq (rNm_inj (hrow q (hPin q hq)).1 g1 (e.symm.trans (rOf_inv k1))))))]
                  exact hI2 q hq h9q
              · have : q = r := List.mem_singleton.mp hq
                subst this; exact absurd h9q hn9
            · rw [if_neg bTn, ckk_y (y0 _ _), y4, bd_s, ckk_y (z3 _ _), z3', ck_n (by omega) (by omega), lt_d, jI_cl (by omega), wI_sI, go]
      · have hap : apP l up (chL M ch l c)[i] = false := decide_eq_false ha
        have hf1 : List.filter (apP l up) [(chL M ch l c)[i]] = [] := by simp [hap]
        rw [b2_f ha, if_pos rfl, go, hf1, List.append_nil]
        exact ⟨st, hI, rfl⟩))
    (chL M ch l c).length 0 mFU (upd (kI S (tx + 2)) 0 0, kI S (tx + 3)) (by omega) (chL_fu hQ c) ⟨by show upd (kI S (tx + 2)) 0 0 0 = 0; exact upd_s _ _ _, fun r hr => absurd hr (by simp)⟩
  unfold fk_9_read
  have h2 := wW (upd (kI S (tx + 2)) 0 0) (kI S (tx + 3))
  have hst : sI (sI S (tx + 2) (upd (kI S (tx + 2)) 0 0)) (tx + 3) (kI S (tx + 3)) = sI S (tx + 2) (upd (kI S (tx + 2)) 0 0) := by
    have := sI_id (sI S (tx + 2) (upd (kI S (tx + 2)) 0 0)) (tx + 3)
    rw [kI_sIo _ _ (by omega)] at this
    exact this
  obtain ⟨S', k1, k2⟩ := key
  have k1' : fk_9_read_17 mFU (sI (sI S (tx + 2) (upd (kI S (tx + 2)) 0 0)) (tx + 3) (kI S (tx + 3))) tx va (nxL ra (chL M ch l c) 0) = some S' := k1
  rw [hst] at k1' h2
  refine ⟨S', ?_, k2⟩
  rw [ckk_y t0, t3, bd_s, ckk_y u2, u2']
  refine (ck_n (i := 0) (by decide) (by decide)).trans ?_
  have hw : cWi S (tx + 2) (Int32.toNatClampNeg 0) 0 = sI S (tx + 2) (upd (kI S (tx + 2)) 0 0) := by rw [show Int32.toNatClampNeg 0 = 0 from rfl]; exact cWi_sI _ _ _ _
  rw [lt_d, hw, ckk_y h2.2.2.1.1.1, h2.2.2.1.1.2.2.2.1, bd_s, k_at0 hc h2.2.1]
  exact k1'
end V

-- part 41: a ledger takes a row
theorem dl_ins {ra : Nat → Nat} {L : List Nat} {k r : Nat} (hk : k ≤ L.length) (hn : L.Nodup) (hr : r ∉ L) {o4 o5 o4' o5' : Nat → Option Nat} (h : ∀ i (h : i < L.length), o4 L[i] = pvL ra L i ∧ o5 L[i] = nxL ra L (i + 1))
    (a1 : o4' r = pvL ra L k) (a2 : ∀ h : k < L.length, o4' L[k] = some (ra r)) (a3 : ∀ i (h : i < L.length), i ≠ k → o4' L[i] = o4 L[i])
    (b1 : o5' r = nxL ra L k) (b2 : ∀ h : k - 1 < L.length, 0 < k → o5' L[k - 1] = some (ra r)) (b3 : ∀ i (h : i < L.length), i + 1 ≠ k → o5' L[i] = o5 L[i]) :
    ∀ i (hi : i < (L.take k ++ r :: L.drop k).length), o4' (L.take k ++ r :: L.drop k)[i] = pvL ra (L.take k ++ r :: L.drop k) i ∧ o5' (L.take k ++ r :: L.drop k)[i] = nxL ra (L.take k ++ r :: L.drop k) (i + 1) := by
  have hlen : (L.take k ++ r :: L.drop k).length = L.length + 1 := by simp; omega
  have pv : ∀ j, pvL ra (L.take k ++ r :: L.drop k) j = if j = 0 then none else if j - 1 < k then (L[j - 1]?).map ra else if j - 1 = k then some (ra r) else (L[j - 1 - 1]?).map ra := fun j => by
    unfold pvL
    by_cases c0 : j = 0
    · rw [if_pos c0, if_pos c0]
    · rw [if_neg c0, if_neg c0]
      by_cases hj : j - 1 < (L.take k ++ r :: L.drop k).length
      · obtain ⟨c1, c2, c3⟩ := cat_get (r := r) hk hj
        rw [List.getElem?_eq_getElem hj]
        by_cases d1 : j - 1 < k
        · obtain ⟨q1, q2⟩ := c1 d1
          rw [if_pos d1, q2, List.getElem?_eq_getElem q1]
        · rw [if_neg d1]
          by_cases d2 : j - 1 = k
          · rw [if_pos d2, c2 d2]; rfl
          · obtain ⟨q1, q2⟩ := c3 (by omega)
            rw [if_neg d2, q2, List.getElem?_eq_getElem q1]
      · rw [List.getElem?_eq_none (by omega), if_neg (by omega), if_neg (by omega), List.getElem?_eq_none (by omega)]
  have nx : ∀ j, nxL ra (L.take k ++ r :: L.drop k) j = if j < k then (L[j]?).map ra else if j = k then some (ra r) else (L[j - 1]?).map ra := fun j => by
    have := pv (j + 1)
    unfold pvL at this
    rw [if_neg (by omega), if_neg (by omega), Nat.add_sub_cancel] at this
    exact this
  intro i hi
  rw [hlen] at hi
  rw [pv, nx]
  obtain ⟨c1, c2, c3⟩ := cat_get (L := L) (r := r) (j := i) hk (by omega)
  rcases Nat.lt_trichotomy i k with c | c | c
  · obtain ⟨q1, q2⟩ := c1 c
    rw [q2]
    constructor
    · rw [a3 i q1 (by omega), (h i q1).1]
      unfold pvL
      by_cases c0 : i = 0
      · rw [if_pos c0, if_pos c0]
      · rw [if_neg c0, if_neg c0, if_pos (by omega)]
    · by_cases ck : i + 1 = k
      · have := b2 (by omega) (by omega)
        have e : k - 1 = i := by omega
        simp only [e] at this
        rw [this, if_neg (by omega), if_pos ck]
      · rw [b3 i q1 ck, (h i q1).2, if_pos (by omega)]; rfl
  · rw [c2 c]
    constructor
    · rw [a1]
      unfold pvL
      by_cases c0 : i = 0
      · rw [if_pos (by omega), if_pos c0]
      · rw [if_neg (by omega), if_neg c0, if_pos (by omega), c]
    · rw [b1, if_neg (by omega), if_neg (by omega)]
      unfold nxL
      rw [show i + 1 - 1 = k by omega]
  · obtain ⟨q1, q2⟩ := c3 c
    rw [q2]
    constructor
    · rw [if_neg (by omega), if_neg (by omega)]
      by_cases ck : i - 1 = k
      · have h2 : k < L.length := by omega
        have := a2 h2
        simp only [ck]
        rw [if_pos trivial]; exact this
      · rw [if_neg ck, a3 (i - 1) q1 ck, (h (i - 1) q1).1]
        unfold pvL
        rw [if_neg (by omega)]
    · rw [b3 (i - 1) q1 (by omega), (h (i - 1) q1).2, if_neg (by omega), if_neg (by omega)]
      unfold nxL
      rw [show i - 1 + 1 = i + 1 - 1 by omega]
section V
variable {M : mSt} {ra : Nat → Nat} {sl ch : Nat → Int32} {made : Nat → Prop} {mkO : Nat → Option Nat} {S S' : cSt} {bk la va ua up vb tx : Nat} {l : List Nat} {W : Nat → Prop}
theorem k_turns {r a : Nat} (h : cRow M sl ch S r a) : fk_8_turnsAnother S a = some (b2 (M.2 9 r = 13 ∨ M.2 9 r = 14)) := by
  obtain ⟨k9, ⟨k0, -⟩, -⟩ := h
  unfold fk_8_turnsAnother fk_8_turnsAnother_18 fk_8_turnsAnother_23
  simp only [ckk_y k9, k0]
  by_cases h1 : M.2 9 r = 13
  · simp [h1, b2, ckz]
  · by_cases h2 : M.2 9 r = 14
    · simp [h1, h2, b2, ckz]
    · simp [h1, h2, b2, ckz]
/-- what a row undoes or redoes is marked -/
theorem k_mark (hB : cBk M ra sl ch made mkO S bk) (h5 : kK S la = 5) (h8 : kR S la 8 = some bk) {p r : Nat} (hp : bk + 5 ≤ p ∧ p < bk + 128) (hk : kK S p = 20) (hl : kL S p = 1000) (hr : r < 1000) (hm : made r) (ht : (M.2 9 r = 13 ∨ M.2 9 r = 14) → ∃ t, rOf (M.2 13 r) = some t ∧ made t) (f : Nat → Int32) : ∃ f', fk_4_mark (sI S p f) la (ra r) p = some (sI S p f') ∧ ∀ q, f' q = if isT M q r = true then b2 (decide (M.2 9 r = 14) = false) else f q := by
  have hB' : cBk M ra sl ch made mkO (sI S p f) bk := cBk_eq (W := fun a => a = p) hB (cEq_sI f rfl) (fun a ha => by have ha' : a = p := ha; omega)
  have hrow := (hB'.2.2.1 r hr hm).2
  have k9 := hrow.1
  have k0 := hrow.2.1.1
  have k5 := hrow.2.1.2.2.2.2.1
  have x5 : kK (sI S p f) la = 5 := h5
  have x8 : kR (sI S p f) la 8 = some bk := h8
  have xk : kK (sI S p f) p = 20 := hk
  have xl : kL (sI S p f) p = 1000 := hl
  unfold fk_4_mark
  rw [ckk_y k9, k_turns hrow, bd_s]
  by_cases hs : M.2 9 r = 13 ∨ M.2 9 r = 14
  · obtain ⟨t, ht1, ht2⟩ := ht hs
    have ht4 := rOf_lt ht1
    obtain ⟨b1, j9, -, ⟨-, -, -, j12⟩, -⟩ := hB'.2.2.1 t ht4 ht2
    rw [b2_t hs, if_neg n10, ckk_y x5, x8, bd_s, ckk_y k9, ckk_y hB'.1.1, k5, k_rowNamed hB', bd_s, ht1]
    show ∃ f', cs (kO (sI S p f) (bk + 1) t) _ _ = _ ∧ _
    rw [b1]
    show ∃ f', ckk (sI S p f) (ra t) 9 _ = _ ∧ _
    rw [ckk_y j9, ckk_y k9, k0, j12]
    have hT : ∀ q, isT M q r = decide (q = t) := fun q => by
      unfold isT
      rcases hs with h1 | h1
      · simp [h1, ht1, eq_comm]
      · simp [h1, ht1, eq_comm]
    unfold fk_4_mark_43 fk_4_mark_44
    rw [ckk_y xk, xl, ck_n ht4 (by omega), ck_n ht4 (by omega), lt_d, lt_d, jI_cl (by omega), wI_sI, wI_sI]
    by_cases h13 : M.2 9 r = 13
    · rw [if_pos h13]
      refine ⟨_, rfl, fun q => ?_⟩
      rw [hT]
      by_cases e : q = t
      · subst e; rw [upd_s, h13]; simp; rfl
      · rw [upd_o _ _ e]; simp [e]
    · have h14 := hs.resolve_left h13
      rw [if_neg h13]
      refine ⟨_, ckk_y xk, fun q => ?_⟩
      rw [hT]
      by_cases e : q = t
      · subst e; rw [upd_s, h14]; simp; rfl
      · rw [upd_o _ _ e]; simp [e]
  · rw [b2_f hs, if_pos rfl]
    refine ⟨f, rfl, fun q => ?_⟩
    have : isT M q r = false := by
      unfold isT
      have h1 : ¬ M.2 9 r = 13 := fun e => hs (Or.inl e)
      have h2 : ¬ M.2 9 r = 14 := fun e => hs (Or.inr e)
      simp [h1, h2]
    rw [this, if_neg (by simp)]
end V

-- part 42: a ledger takes a row: the links
def sT (S : cSt) (la : Nat) (o4 o5 o6 o7 : Nat → Option Nat) : cSt := (S.1, S.2.1, S.2.2.1, S.2.2.2.1, (fun b => if b = la + 4 then o4 else if b = la + 5 then o5 else if b = la + 6 then o6 else if b = la + 7 then o7 else S.2.2.2.2.1 b), S.2.2.2.2.2)
theorem sT_4 (S : cSt) (la : Nat) (o4 o5 o6 o7 : Nat → Option Nat) : kO (sT S la o4 o5 o6 o7) (la + 4) = o4 := by funext j; simp [kO, sT]
theorem sT_5 (S : cSt) (la : Nat) (o4 o5 o6 o7 : Nat → Option Nat) : kO (sT S la o4 o5 o6 o7) (la + 5) = o5 := by funext j; simp [kO, sT]
theorem sT_6 (S : cSt) (la : Nat) (o4 o5 o6 o7 : Nat → Option Nat) : kO (sT S la o4 o5 o6 o7) (la + 6) = o6 := by funext j; simp [kO, sT]
theorem sT_7 (S : cSt) (la : Nat) (o4 o5 o6 o7 : Nat → Option Nat) : kO (sT S la o4 o5 o6 o7) (la + 7) = o7 := by funext j; simp [kO, sT]
theorem sT_o (S : cSt) {la b : Nat} (o4 o5 o6 o7 : Nat → Option Nat) (h : b < la + 4 ∨ la + 8 ≤ b) : kO (sT S la o4 o5 o6 o7) b = kO S b := by
  funext j
  have h4 : b ≠ la + 4 := by omega
  have h5 : b ≠ la + 5 := by omega
  have h6 : b ≠ la + 6 := by omega
  have h7 : b ≠ la + 7 := by omega
  simp [kO, sT, h4, h5, h6, h7]
theorem sT_id (S : cSt) (la : Nat) : sT S la (kO S (la + 4)) (kO S (la + 5)) (kO S (la + 6)) (kO S (la + 7)) = S := by
  unfold sT kO
  have : (fun b => if b = la + 4 then S.2.2.2.2.1 (la + 4) else if b = la + 5 then S.2.2.2.2.1 (la + 5) else if b = la + 6 then S.2.2.2.2.1 (la + 6) else if b = la + 7 then S.2.2.2.2.1 (la + 7) else S.2.2.2.2.1 b) = S.2.2.2.2.1 := by
    funext b
    by_cases h4 : b = la + 4
    · rw [if_pos h4, h4]
    · rw [if_neg h4]
      by_cases h5 : b = la + 5
      · rw [if_pos h5, h5]
      · rw [if_neg h5]
        by_cases h6 : b = la + 6
        · rw [if_pos h6, h6]
        · rw [if_neg h6]
          by_cases h7 : b = la + 7
          · rw [if_pos h7, h7]
          · rw [if_neg h7]
  show (S.1, S.2.1, S.2.2.1, S.2.2.2.1, _, S.2.2.2.2.2) = S
  rw [this]
theorem sT_w (S : cSt) {la : Nat} (o4 o5 o6 o7 : Nat → Option Nat) (i : Nat) (x : Option Nat) : cWo (sT S la o4 o5 o6 o7) (la + 4) i x = sT S la (upo o4 i x) o5 o6 o7 ∧ cWo (sT S la o4 o5 o6 o7) (la + 5) i x = sT S la o4 (upo o5 i x) o6 o7 ∧ cWo (sT S la o4 o5 o6 o7) (la + 6) i x = sT S la o4 o5 (upo o6 i x) o7 ∧ cWo (sT S la o4 o5 o6 o7) (la + 7) i x = sT S la o4 o5 o6 (upo o7 i x) := by
  refine ⟨?_, ?_, ?_, ?_⟩
  all_goals
    unfold cWo sT
    congr 5
    funext b j
    unfold up2 upo
    by_cases h4 : b = la + 4
    · subst h4; by_cases hj : j = i <;> simp [hj]
    · by_cases h5 : b = la + 5
      · subst h5; by_cases hj : j = i <;> simp [hj]
      · by_cases h6 : b = la + 6
        · subst h6; by_cases hj : j = i <;> simp [hj]
        · by_cases h7 : b = la + 7
          · subst h7; by_cases hj : j = i <;> simp [hj]
          · simp [h4, h5, h6, h7]
def inC (la : Nat) : Nat → Prop := fun a => la + 4 ≤ a ∧ a < la + 8
theorem cEq_sT (S : cSt) (la : Nat) (o4 o5 o6 o7 : Nat → Option Nat) : cEq (inC la) S (sT S la o4 o5 o6 o7) :=
  ⟨fun _ => rfl, fun _ => rfl, rfl, fun _ => rfl, fun a ha => ⟨rfl, rfl, rfl, sT_o S o4 o5 o6 o7 (by unfold inC at ha; omega)⟩⟩
section V
variable {M : mSt} {ra : Nat → Nat} {sl ch : Nat → Int32} {made : Nat → Prop} {mkO : Nat → Option Nat} {S S' : cSt} {bk la va ua up vb tx : Nat} {l : List Nat} {W : Nat → Prop}
theorem ckqO {T : cSt} {o : Option Nat} {α : Type} {K : Option α} (ho : ∀ a, o = some a → kK T a = 9) : ckq T o 9 K = K := by
  cases o with
  | none => rfl
  | some a => exact ckk_y (ho a rfl)
set_option maxHeartbeats 4000000 in
theorem k_link39 (hB : cBk M ra sl ch made mkO S bk) (hy : cLay S la bk) {L : List Nat} {c k r : Nat} (hc : c < 385) (hk : k ≤ L.length) (hr : r < 1000) (hm : made r) (hLm : ∀ q ∈ L, q < 1000 ∧ made q) (hch : ch r = Int32.ofNat c) (o4 o5 o6 o7 : Nat → Option Nat) : ∃ o4' o5' o6' o7', fk_4_link_39 (sT S la o4 o5 o6 o7) la (ra r) (nxL ra L k) (pvL ra L k) = some (sT S la o4' o5' o6' o7') ∧
    o4' = (if h : k < L.length then upo (upo o4 r (pvL ra L k)) L[k] (some (ra r)) else upo o4 r (pvL ra L k)) ∧
    o5' = (if h : k - 1 < L.length ∧ 0 < k then upo (upo o5 r (nxL ra L k)) (L[k - 1]'h.1) (some (ra r)) else upo o5 r (nxL ra L k)) ∧
    o6' = (if k = 0 then upo o6 c (some (ra r)) else o6) ∧ o7' = (if k < L.length then o7 else upo o7 c (some (ra r))) := by
  obtain ⟨⟨y5, y8, yr⟩, y1, y2, y3⟩ := hy
  have r3 := yr 3 (by decide)
  have r4 := yr 4 (by decide)
  have r5 := yr 5 (by decide)
  have r6 := yr 6 (by decide)
  have a4 := y2 0 (by decide)
  have a5 := y2 1 (by decide)
  have a6 := y3 0 (by decide)
  have a7 := y3 1 (by decide)
  simp only [Nat.add_assoc, Nat.reduceAdd, Nat.add_zero] at r3 r4 r5 r6 a4 a5 a6 a7
  obtain ⟨-, k9, -, ⟨-, -, -, k12⟩, -, k13, -⟩ := hB.2.2.1 r hr hm
  have hrow : ∀ q, q ∈ L → kK S (ra q) = 9 ∧ kF S (ra q) 12 = Int32.ofNat q := fun q hq => by
    obtain ⟨-, p9, -, ⟨-, -, -, p12⟩, -⟩ := hB.2.2.1 q (hLm q hq).1 (hLm q hq).2
    exact ⟨p9, p12⟩
  have z5 : ∀ p4 p5 p6 p7, kK (sT S la p4 p5 p6 p7) la = 5 := fun _ _ _ _ => y5
  have zr3 : ∀ p4 p5 p6 p7, kR (sT S la p4 p5 p6 p7) la 3 = some (la + 4) := fun _ _ _ _ => r3
  have zr4 : ∀ p4 p5 p6 p7, kR (sT S la p4 p5 p6 p7) la 4 = some (la + 5) := fun _ _ _ _ => r4
  have zr5 : ∀ p4 p5 p6 p7, kR (sT S la p4 p5 p6 p7) la 5 = some (la + 6) := fun _ _ _ _ => r5
  have zr6 : ∀ p4 p5 p6 p7, kR (sT S la p4 p5 p6 p7) la 6 = some (la + 7) := fun _ _ _ _ => r6
  have z4 : ∀ p4 p5 p6 p7, kK (sT S la p4 p5 p6 p7) (la + 4) = 30 := fun _ _ _ _ => a4.1
  have z4' : ∀ p4 p5 p6 p7, kL (sT S la p4 p5 p6 p7) (la + 4) = 1000 := fun _ _ _ _ => a4.2
  have z55 : ∀ p4 p5 p6 p7, kK (sT S la p4 p5 p6 p7) (la + 5) = 30 := fun _ _ _ _ => a5.1
  have z5' : ∀ p4 p5 p6 p7, kL (sT S la p4 p5 p6 p7) (la + 5) = 1000 := fun _ _ _ _ => a5.2
  have z6 : ∀ p4 p5 p6 p7, kK (sT S la p4 p5 p6 p7) (la + 6) = 30 := fun _ _ _ _ => a6.1
  have z6' : ∀ p4 p5 p6 p7, kL (sT S la p4 p5 p6 p7) (la + 6) = 385 := fun _ _ _ _ => a6.2
  have z7 : ∀ p4 p5 p6 p7, kK (sT S la p4 p5 p6 p7) (la + 7) = 30 := fun _ _ _ _ => a7.1
  have z7' : ∀ p4 p5 p6 p7, kL (sT S la p4 p5 p6 p7) (la + 7) = 385 := fun _ _ _ _ => a7.2
  have z9 : ∀ p4 p5 p6 p7, kK (sT S la p4 p5 p6 p7) (ra r) = 9 := fun _ _ _ _ => k9
  have z12 : ∀ p4 p5 p6 p7, kF (sT S la p4 p5 p6 p7) (ra r) 12 = Int32.ofNat r := fun _ _ _ _ => k12
  have z13 : ∀ p4 p5 p6 p7, kF (sT S la p4 p5 p6 p7) (ra r) 13 = Int32.ofNat c := fun _ _ _ _ => k13.trans hch
  have zq9 : ∀ q, q ∈ L → ∀ p4 p5 p6 p7, kK (sT S la p4 p5 p6 p7) (ra q) = 9 := fun q hq _ _ _ _ => (hrow q hq).1
  have zq12 : ∀ q, q ∈ L → ∀ p4 p5 p6 p7, kF (sT S la p4 p5 p6 p7) (ra q) 12 = Int32.ofNat q := fun q hq _ _ _ _ => (hrow q hq).2
  have ckr : ∀ p4 p5 p6 p7 {K : Option cSt}, ckq (sT S la p4 p5 p6 p7) (some (ra r)) 9 K = K := fun _ _ _ _ {K} => ckk_y k9
  have hr31 : r < 2147483648 := by omega
  have hc31 : c < 2147483648 := by omega
  have e86 : ∀ p4 p5 p6 p7, fk_4_link_86 (sT S la p4 p5 p6 p7) la (ra r) (nxL ra L k) = some (sT S la (if h : k < L.length then upo p4 L[k] (some (ra r)) else p4) p5 p6 (if k < L.length then p7 else upo p7 c (some (ra r)))) := fun p4 p5 p6 p7 => by
    unfold fk_4_link_86 fk_4_link_113 nxL
    by_cases hlt : k < L.length
    · have hq := List.getElem_mem hlt
      have hq4 := (hLm _ hq).1
      rw [List.getElem?_eq_getElem hlt, dif_pos hlt, if_pos hlt]
      show ckk (sT S la p4 p5 p6 p7) la 5 _ = _
      rw [ckk_y (z5 _ _ _ _), zr3, bd_s, ckk_y (zq9 _ hq _ _ _ _), ckk_y (z4 _ _ _ _), z4', zq12 _ hq, ck_n hq4 (by omega), ckr, lt_d, jI_cl (by omega), (sT_w S _ _ _ _ _ _).1]
    · rw [List.getElem?_eq_none (by omega), dif_neg hlt, if_neg hlt]
      show ckk (sT S la p4 p5 p6 p7) la 5 _ = _
      rw [ckk_y (z5 _ _ _ _), zr6, bd_s, ckk_y (z9 _ _ _ _), ckk_y (z7 _ _ _ _), z7', z13, ck_n hc hc31, ckr, lt_d, jI_cl hc31, (sT_w S _ _ _ _ _ _).2.2.2]
  unfold fk_4_link_39
  have hpvq : ∀ a, pvL ra L k = some a → kK S a = 9 := fun a ha => by
    unfold pvL at ha
    by_cases c0 : k = 0
    · rw [if_pos c0] at ha; cases ha
    · rw [if_neg c0, List.getElem?_eq_getElem (by omega)] at ha
      cases ha
      exact (hrow _ (List.getElem_mem (by omega))).1
  have hnxq : ∀ a, nxL ra L k = some a → kK S a = 9 := fun a ha => by
    unfold nxL at ha
    by_cases c0 : k < L.length
    · rw [List.getElem?_eq_getElem c0] at ha
      cases ha
      exact (hrow _ (List.getElem_mem c0)).1
    · rw [List.getElem?_eq_none (by omega)] at ha; cases ha
  rw [ckk_y (z5 _ _ _ _), zr3, bd_s, ckk_y (z9 _ _ _ _), ckk_y (z4 _ _ _ _), z4', z12, ck_n hr hr31, ckqO (T := sT S la o4 o5 o6 o7) hpvq, lt_d, jI_cl hr31, (sT_w S _ _ _ _ _ _).1]
  rw [ckk_y (z5 _ _ _ _), zr4, bd_s, ckk_y (z9 _ _ _ _), ckk_y (z55 _ _ _ _), z5', z12, ck_n hr hr31, ckqO (T := sT S la _ o5 o6 o7) hnxq, lt_d, jI_cl hr31, (sT_w S _ _ _ _ _ _).2.1]
  by_cases c0 : k = 0
  · have hp : pvL ra L k = none := by unfold pvL; rw [if_pos c0]
    rw [hp]
    show ∃ o4' o5' o6' o7', ckk (sT S la _ _ o6 o7) la 5 _ = _ ∧ _
    rw [ckk_y (z5 _ _ _ _), zr5, bd_s, ckk_y (z9 _ _ _ _), ckk_y (z6 _ _ _ _), z6', z13, ck_n hc hc31, ckr, lt_d, jI_cl hc31, (sT_w S _ _ _ _ _ _).2.2.1, e86]
    exact ⟨_, _, _, _, rfl, by rfl, by rw [dif_neg (fun q => by omega)], by rw [if_pos c0], rfl⟩
  · have hlt : k - 1 < L.length := by omega
    have hq := List.getElem_mem hlt
    have hq4 := (hLm _ hq).1
    have hp : pvL ra L k = some (ra L[k - 1]) := by unfold pvL; rw [if_neg c0, List.getElem?_eq_getElem hlt]; rfl
    rw [hp]
    show ∃ o4' o5' o6' o7', ckk (sT S la _ _ o6 o7) la 5 _ = _ ∧ _
    rw [ckk_y (z5 _ _ _ _), zr4, bd_s, ckk_y (zq9 _ hq _ _ _ _), ckk_y (z55 _ _ _ _), z5', zq12 _ hq, ck_n hq4 (by omega), ckr, lt_d, jI_cl (by omega), (sT_w S _ _ _ _ _ _).2.1, e86]
    exact ⟨_, _, _, _, rfl, by rfl, by rw [dif_pos ⟨hlt, by omega⟩], by rw [if_neg c0], rfl⟩
/-- a row is linked into its chain -/
theorem k_link (ht : tOk M) (hB : cBk M ra sl ch made mkO S bk) (hy : cLay S la bk) {c r : Nat} (hc : c < 385) (hr : r < 1000) (hm : made r) (hrl : r ∉ l) (ho : lOk made l) (hch : ch r = Int32.ofNat c) (hD : ∀ c, c < 385 → cDl ra S la c (chL M ch l c)) : ∃ S', fk_4_link S la (ra r) = some S' ∧ cEq (inC la) S S' ∧ ∀ c, c < 385 → cDl ra S' la c (chL M ch (l ++ [r]) c) := by
  obtain ⟨⟨y5, y8, yr⟩, y1, y2, y3⟩ := id hy
  have r3 := yr 3 (by decide)
  have r6 := yr 6 (by decide)
  have a4 := y2 0 (by decide)
  have a7 := y3 1 (by decide)
  simp only [Nat.add_assoc, Nat.reduceAdd, Nat.add_zero] at r3 r6 a4 a7
  obtain ⟨-, hrw⟩ := hB.2.2.1 r hr hm
  have k9 := hrw.1
  have k13 := hrw.2.2.2.2.1
  have hrL : ∀ c, r ∉ chL M ch l c := fun c q => hrl (chL_mem.mp q).1
  have hLm : ∀ q ∈ chL M ch l c, q < 1000 ∧ made q := fun q hq => ho.2.2 q (chL_mem.mp hq).1
  have hD1 := hD c hc
  unfold fk_4_link
  have hnd := chL_nd (M := M) (ch := ch) ho.1 c
  have hsd : sdl (rK M) (chL M ch l c) := sdl_srt _ _
  have walk : ∀ (k fu : Nat), k ≤ (chL M ch l c).length → k < fu → (∀ j (h : j < (chL M ch l c).length), k ≤ j → rK M r < rK M (chL M ch l c)[j]) → ∃ k', k' ≤ (chL M ch l c).length ∧ fk_4_link_12 fu S la (ra r) (nxL ra (chL M ch l c) k) (pvL ra (chL M ch l c) k) = fk_4_link_39 S la (ra r) (nxL ra (chL M ch l c) k') (pvL ra (chL M ch l c) k') ∧ (∀ j (h : j < (chL M ch l c).length), k' ≤ j → rK M r < rK M (chL M ch l c)[j]) ∧ (∀ (h : k' - 1 < (chL M ch l c).length), 0 < k' → rK M ((chL M ch l c)[k' - 1]) ≤ rK M r) := by
    intro k
    induction k with
    | zero =>
      intro fu _ hf h4
      obtain ⟨fu, rfl⟩ : ∃ q, fu = q + 1 := ⟨fu - 1, by omega⟩
      exact ⟨0, Nat.zero_le _, by rw [fk_4_link_12]; rfl, h4, fun _ h => absurd h (by omega)⟩
    | succ k ih =>
      intro fu hk hf h4
      obtain ⟨fu, rfl⟩ : ∃ q, fu = q + 1 := ⟨fu - 1, by omega⟩
      have hlt : k < (chL M ch l c).length := by omega
      have hq := List.getElem_mem hlt
      obtain ⟨q4, qm⟩ := hLm _ hq
      obtain ⟨-, hqw⟩ := hB.2.2.1 _ q4 qm
      have hp : pvL ra (chL M ch l c) (k + 1) = some (ra (chL M ch l c)[k]) := by unfold pvL; rw [if_neg (by omega), Nat.add_sub_cancel, List.getElem?_eq_getElem hlt]; rfl
      have hx : nxL ra (chL M ch l c) k = some (ra (chL M ch l c)[k]) := by unfold nxL; rw [List.getElem?_eq_getElem hlt]; rfl
      rw [hp, fk_4_link_12]
      show ∃ k', _ ∧ ckk S (ra r) 9 _ = _ ∧ _
      rw [ckk_y k9, k_isBefore ht hr q4 hrw hqw, bd_s]
      by_cases hb : rK M r < rK M (chL M ch l c)[k]
      · obtain ⟨k', g1, g2, g3, g4⟩ := ih fu (by omega) (by omega) (fun j hj hkj => by
          by_cases ej : j = k
          · subst ej; exact hb
          · exact h4 j hj (by omega))
        refine ⟨k', g1, ?_, g3, g4⟩
        rw [b2_t hb, if_neg n10, ckk_y y5, r3, bd_s, ckk_y hqw.1, ckk_y a4.1, a4.2, hqw.2.2.1.2.2.2, ck_n q4 (by omega), lt_d, jI_cl (by omega)]
        have := (hD1.2.2 k hlt).1
        rw [this, ← hx]
        exact g2
      · refine ⟨k + 1, hk, ?_, h4, fun h _ => Nat.not_lt.mp hb⟩
        rw [b2_f hb, if_pos rfl, hp]
  obtain ⟨k, w1, w2, w3, w4⟩ := walk (chL M ch l c).length mFU (Nat.le_refl _) (Nat.lt_of_le_of_lt (Nat.le_trans (chL_len c) ho.2.1) (by decide)) (fun j hj hkj => absurd hj (by omega))
  have hnx0 : nxL ra (chL M ch l c) (chL M ch l c).length = none := by unfold nxL; rw [List.getElem?_eq_none (Nat.le_refl _)]; rfl
  obtain ⟨o4', o5', o6', o7', l1, l2, l3, l4, l5⟩ := k_link39 hB hy hc w1 hr hm hLm hch (kO S (la + 4)) (kO S (la + 5)) (kO S (la + 6)) (kO S (la + 7))
  rw [sT_id] at l1
  refine ⟨sT S la o4' o5' o6' o7', ?_, cEq_sT _ _ _ _ _ _, ?_⟩
  · rw [ckk_y y5, r6, bd_s, ckk_y k9, ckk_y a7.1, a7.2, k13, hch, ck_n hc (by omega), lt_d, jI_cl (by omega), hD1.2.1, ← hnx0, w2]
    exact l1
  · have hlen : ((chL M ch l c).take k ++ r :: (chL M ch l c).drop k).length = (chL M ch l c).length + 1 := by simp; omega
    have e4 : ∀ q, q ≠ r → (∀ h : k < (chL M ch l c).length, q ≠ (chL M ch l c)[k]) → o4' q = kO S (la + 4) q := fun q h1 h2 => by
      rw [l2]
      by_cases hlt : k < (chL M ch l c).length
      · rw [dif_pos hlt, upo_o _ _ (h2 hlt), upo_o _ _ h1]
      · rw [dif_neg hlt, upo_o _ _ h1]
    have e5 : ∀ q, q ≠ r → (∀ h : k - 1 < (chL M ch l c).length, 0 < k → q ≠ (chL M ch l c)[k - 1]) → o5' q = kO S (la + 5) q := fun q h1 h2 => by
      rw [l3]
      by_cases hlt : k - 1 < (chL M ch l c).length ∧ 0 < k
      · rw [dif_pos hlt, upo_o _ _ (h2 hlt.1 hlt.2), upo_o _ _ h1]
      · rw [dif_neg hlt, upo_o _ _ h1]
    intro c' hc'
    by_cases ec : c' = c
    · subst ec
      have hins : chL M ch (l ++ [r]) c' = (chL M ch l c').take k ++ r :: (chL M ch l c').drop k := by
        unfold chL
        rw [List.filter_append]
        have : List.filter (fun r => decide (ch r = Int32.ofNat c')) [r] = [r] := by simp [hch]
        rw [this, srt_app]
        exact ins_at k hsd w1 w3 w4
      have hrL' := hrL c'
      rw [hins]
      refine ⟨?_, ?_, ?_⟩
      · rw [sT_6, l4]
        by_cases c0 : k = 0
        · rw [if_pos c0, upo_s]
          unfold nxL
          rw [c0]; rfl
        · rw [if_neg c0, hD1.1]
          unfold nxL
          obtain ⟨d1, -⟩ := cat_get (L := chL M ch l c') (r := r) (j := 0) w1 (by omega)
          obtain ⟨q1, q2⟩ := d1 (by omega)
          rw [List.getElem?_eq_getElem q1, List.getElem?_eq_getElem (by omega), q2]
      · rw [sT_7, l5, hlen]
        unfold pvL
        rw [if_neg (show ¬ (chL M ch l c').length + 1 = 0 by omega), Nat.add_sub_cancel]
        obtain ⟨-, d2, d3⟩ := cat_get (L := chL M ch l c') (r := r) (j := (chL M ch l c').length) w1 (by omega)
        rw [List.getElem?_eq_getElem (by omega)]
        by_cases c0 : k < (chL M ch l c').length
        · obtain ⟨q1, q2⟩ := d3 c0
          rw [if_pos c0, hD1.2.1, q2]
          unfold pvL
          rw [if_neg (by omega), List.getElem?_eq_getElem q1]
        · rw [if_neg c0, upo_s, d2 (by omega)]; rfl
      · rw [sT_4, sT_5]
        refine dl_ins w1 hnd hrL' (o4 := kO S (la + 4)) (o5 := kO S (la + 5)) hD1.2.2 ?_ ?_ ?_ ?_ ?_ ?_
        · rw [l2]
          by_cases hlt : k < (chL M ch l c').length
          · rw [dif_pos hlt, upo_o _ _ (fun e : r = (chL M ch l c')[k] => hrL' (e ▸ List.getElem_mem hlt)), upo_s]
          · rw [dif_neg hlt, upo_s]
        · intro hlt; rw [l2, dif_pos hlt, upo_s]
        · intro j hj hjk
          exact e4 _ (fun e => hrL' (e ▸ List.getElem_mem hj)) (fun h e => hjk ((List.getElem_inj hnd).mp e))
        · rw [l3]
          by_cases hlt : k - 1 < (chL M ch l c').length ∧ 0 < k
          · rw [dif_pos hlt, upo_o _ _ (fun e : r = (chL M ch l c')[k - 1]'hlt.1 => hrL' (e ▸ List.getElem_mem hlt.1)), upo_s]
          · rw [dif_neg hlt, upo_s]
        · intro hlt h0; rw [l3, dif_pos ⟨hlt, h0⟩, upo_s]
        · intro j hj hjk
          exact e5 _ (fun e => hrL' (e ▸ List.getElem_mem hj)) (fun h h0 e => by have := (List.getElem_inj hnd).mp e; omega)
    · have hins : chL M ch (l ++ [r]) c' = chL M ch l c' := by
        unfold chL
        rw [List.filter_append]
        have hne : ¬ ch r = Int32.ofNat c' := fun q => ec ((jI_inj (by omega) (by omega)).mp (q.symm.trans hch))
        have : List.filter (fun r => decide (ch r = Int32.ofNat c')) [r] = [] := by simp [hne]
        rw [this, List.append_nil]
      have hD2 := hD c' hc'
      have hdis : ∀ q, q ∈ chL M ch l c' → q ∉ chL M ch l c := fun q h1 h2 => ec ((jI_inj (by omega) (by omega)).mp ((chL_mem.mp h1).2.symm.trans (chL_mem.mp h2).2))
      rw [hins]
      refine ⟨?_, ?_, fun j hj => ?_⟩
      · rw [sT_6, l4, ← hD2.1]
        by_cases c0 : k = 0
        · rw [if_pos c0, upo_o _ _ ec]
        · rw [if_neg c0]
      · rw [sT_7, l5, ← hD2.2.1]
        by_cases c0 : k < (chL M ch l c).length
        · rw [if_pos c0]
        · rw [if_neg c0, upo_o _ _ ec]
      · have hq := List.getElem_mem hj
        rw [sT_4, sT_5, e4 _ (fun e => hrL c' (e ▸ hq)) (fun h e => hdis _ hq (e ▸ List.getElem_mem h)), e5 _ (fun e => hrL c' (e ▸ hq)) (fun h _ e => hdis _ hq (e ▸ List.getElem_mem h))]
        exact hD2.2.2 j hj
end V

-- part 43: a ledger takes a row
section V
variable {M : mSt} {ra : Nat → Nat} {sl ch : Nat → Int32} {made : Nat → Prop} {mkO : Nat → Option Nat} {S S' : cSt} {bk la va ua up vb tx : Nat} {l : List Nat} {W : Nat → Prop}
theorem k_has (hB : cBk M ra sl ch made mkO S bk) (hL : cLed M ra ch S la bk l) (hle : l.length ≤ 1000) {r : Nat} (hr : r < 1000) (hm : made r) : fk_4_has S la (ra r) = some (b2 (r ∈ l)) := by
  obtain ⟨-, k9, -, ⟨-, -, -, k12⟩, -⟩ := hB.2.2.1 r hr hm
  obtain ⟨⟨l1, l2, l3⟩, l4, l5, l6⟩ := hL.1
  have p1 := l4 1 (by decide)
  unfold fk_4_has fk_4_has_17
  rw [ckk_y l1, l3 1 (by decide), bd_s, ckk_y k9, ckk_y p1.1, p1.2, k12, ck_n hr (by omega), jI_cl (by omega)]
  show (if kI S (la + 2) r ≤ 0 then _ else _) = _
  by_cases h : r ∈ l
  · obtain ⟨i, hi, rfl⟩ := List.mem_iff_getElem.mp h
    rw [(hL.2.2.1 i hi).2, if_neg (jI_p (by omega) (by omega)), b2_t h]; rfl
  · rw [hL.2.2.2.1 r hr h, if_pos (by decide), b2_f h]; rfl
def inLd (la : Nat) : Nat → Prop := fun a => la ≤ a ∧ a < la + 8
set_option maxHeartbeats 4000000 in
theorem k_take (ht : tOk M) (hB : cBk M ra sl ch made mkO S bk) (hL : cLed M ra ch S la bk l) (ho : lOk made l) (hla : bk + 5 ≤ la ∧ la + 8 ≤ bk + 128) {r : Nat} (hr : r < 1000) (hm : made r) (hrl : r ∉ l) (hlen : l.length < 1000) (htg : (M.2 9 r = 13 ∨ M.2 9 r = 14) → ∃ t, rOf (M.2 13 r) = some t ∧ made t) (hch : ch r = -1 ∨ ∃ c, c < 385 ∧ ch r = Int32.ofNat c) : ∃ S', fk_4_take S la (ra r) = some S' ∧ cEq (inLd la) S S' ∧ kR S' la = kR S la ∧ (∀ k, k ≠ 7 → kF S' la k = kF S la k) ∧ cLed M ra ch S' la bk (l ++ [r]) := by
  obtain ⟨y, f7, came, plc, und, dl⟩ := id hL
  obtain ⟨⟨y5, y8, yr⟩, y1, y2, y3⟩ := id y
  obtain ⟨-, k9, -, ⟨-, -, -, k12⟩, -, k13, -⟩ := hB.2.2.1 r hr hm
  have c1 := y1 0 (by decide)
  have c2 := y1 1 (by decide)
  have c3 := y1 2 (by decide)
  have r0 := yr 0 (by decide)
  have r1 := yr 1 (by decide)
  have r2 := yr 2 (by decide)
  simp only [Nat.add_assoc, Nat.reduceAdd, Nat.add_zero] at c1 c2 c3 r0 r1 r2
  have hone : Int32.ofNat l.length + 1 = Int32.ofNat (l.length + 1) := jI_add _ 1
  -- the states
  have S4 : cWi S (la + 1) l.length (Int32.ofNat r) = sI S (la + 1) (upd (kI S (la + 1)) l.length (Int32.ofNat r)) := cWi_sI _ _ _ _
  generalize hf1 : upd (kI S (la + 1)) l.length (Int32.ofNat r) = f1 at S4
  generalize hT5 : cPi (sI S (la + 1) f1) la 7 (Int32.ofNat (l.length + 1)) = T5
  have e5 : cEq (inLd la) S T5 := by rw [← hT5]; exact cEq_trans (cEq_sI f1 (show inLd la (la + 1) by unfold inLd; omega)) (cEq_cPi _ (show inLd la la by unfold inLd; omega))
  have x5k : ∀ a, kK T5 a = kK S a := e5.1
  have x5l : ∀ a, kL T5 a = kL S a := e5.2.1
  have x5r : kR T5 = kR S := by rw [← hT5]; rfl
  have x5f : kF T5 la 7 = Int32.ofNat (l.length + 1) := by rw [← hT5]; exact kF_cPi _ _ _ _
  have x5f' : ∀ k, k ≠ 7 → kF T5 la k = kF S la k := fun k hk => by rw [← hT5]; exact kF_cPo _ _ (fun q => hk q.2)
  have x5i : kI T5 (la + 1) = f1 := by rw [← hT5]; exact kI_sI _ _ _
  have x5i' : ∀ a, a ≠ la + 1 → kI T5 a = kI S a := fun a ha => by rw [← hT5]; exact kI_sIo _ _ ha
  have x5o : kO T5 = kO S := by rw [← hT5]; rfl
  have hB5 : cBk M ra sl ch made mkO T5 bk := cBk_eq hB e5 (fun a ha => by unfold inLd at ha; omega)
  obtain ⟨-, j9, -, ⟨-, -, -, j12⟩, -, j13, -⟩ := hB5.2.2.1 r hr hm
  generalize hf2 : upd (kI S (la + 2)) r (Int32.ofNat (l.length + 1)) = f2
  have S7 : cWi T5 (la + 2) r (Int32.ofNat (l.length + 1)) = sI T5 (la + 2) f2 := by rw [cWi_sI, x5i' _ (by omega), hf2]
  have e7 : cEq (inLd la) S (sI T5 (la + 2) f2) := cEq_trans e5 (cEq_sI f2 (show inLd la (la + 2) by unfold inLd; omega))
  have hB7 : cBk M ra sl ch made mkO (sI T5 (la + 2) f2) bk := cBk_eq hB e7 (fun a ha => by unfold inLd at ha; omega)
  have k7 : kK (sI T5 (la + 2) f2) la = 5 := (x5k la).trans y5
  have k78 : kR (sI T5 (la + 2) f2) la 8 = some bk := by show kR T5 la 8 = _; rw [x5r]; exact y8
  obtain ⟨f3, m1, m2⟩ := k_mark hB7 k7 k78 (p := la + 3) (by omega) ((x5k _).trans c3.1) ((x5l _).trans c3.2) hr hm htg (kI (sI T5 (la + 2) f2) (la + 3))
  rw [sI_id] at m1
  generalize hT10 : sI (sI T5 (la + 2) f2) (la + 3) f3 = T10 at m1
  have e10 : cEq (inLd la) S T10 := by rw [← hT10]; exact cEq_trans e7 (cEq_sI f3 (show inLd la (la + 3) by unfold inLd; omega))
  have hB10 : cBk M ra sl ch made mkO T10 bk := cBk_eq hB e10 (fun a ha => by unfold inLd at ha; omega)
  have x10r : kR T10 = kR S := by rw [← hT10]; exact x5r
  have x10f : ∀ k, kF T10 la k = kF T5 la k := fun k => by rw [← hT10]; rfl
  have x10o : kO T10 = kO S := by rw [← hT10]; exact x5o
  have x101 : kI T10 (la + 1) = f1 := by rw [← hT10, kI_sIo _ _ (by omega), kI_sIo _ _ (by omega)]; exact x5i
  have x102 : kI T10 (la + 2) = f2 := by rw [← hT10, kI_sIo _ _ (by omega), kI_sI]
  have x103 : kI T10 (la + 3) = f3 := by rw [← hT10, kI_sI]
  have y10 : cLay T10 la bk := by unfold cLay; simp only [e10.1, e10.2.1, x10r]; exact y
  obtain ⟨-, i9, -, ⟨-, -, -, i12⟩, -, i13, -⟩ := hB10.2.2.1 r hr hm
  have dl10 : ∀ c, c < 385 → cDl ra T10 la c (chL M ch l c) := fun c hc => by
    have := dl c hc
    unfold cDl at this ⊢
    rw [x10o]; exact this
  have fin : ∀ T, cEq (inC la) T10 T → (∀ k, kF T la k = kF T10 la k) → kR T la = kR T10 la → (∀ c, c < 385 → cDl ra T la c (chL M ch (l ++ [r]) c)) → cEq (inLd la) S T ∧ kR T la = kR S la ∧ (∀ k, k ≠ 7 → kF T la k = kF S la k) ∧ cLed M ra ch T la bk (l ++ [r]) := fun T eT hfT hrT hdT => by
    have q1 := eT.2.2.2.2 (la + 1) (by unfold inC; omega)
    have q2 := eT.2.2.2.2 (la + 2) (by unfold inC; omega)
    have q3 := eT.2.2.2.2 (la + 3) (by unfold inC; omega)
    refine ⟨cEq_trans e10 (cEq_mono eT (fun a ha => by unfold inC at ha; unfold inLd; omega)), by rw [hrT, x10r], fun k hk => by rw [hfT, x10f, x5f' k hk], ?_, ?_, ?_, ?_, ?_, hdT⟩
    · unfold cLay
      simp only [eT.1, eT.2.1, e10.1, e10.2.1, hrT, x10r]; exact y
    · rw [hfT, x10f, x5f]; congr 1; simp
    · intro i hi
      rw [List.length_append] at hi
      have hi' : i < l.length + 1 := hi
      rw [q1.2.2.1, q2.2.2.1, x101, x102, ← hf1, ← hf2]
      by_cases ei : i = l.length
      · subst ei
        rw [List.getElem_append_right (Nat.le_refl _)]
        simp only [Nat.sub_self, List.getElem_cons_zero]
        rw [upd_s, upd_s]; exact ⟨rfl, rfl⟩
      · have hi2 : i < l.length := by omega
        have hne : l[i] ≠ r := fun e => hrl (e ▸ List.getElem_mem hi2)
        rw [List.getElem_append_left hi2, upd_o _ _ ei, upd_o _ _ hne]
        exact came i hi2
    · intro q hq hql
      rw [q2.2.2.1, x102, ← hf2]
      have hne : q ≠ r := fun e => hql (e ▸ List.mem_append.mpr (Or.inr (List.mem_singleton.mpr rfl)))
      rw [upd_o _ _ hne]
      exact plc q hq (fun h => hql (List.mem_append.mpr (Or.inl h)))
    · intro q hq
      rw [q3.2.2.1, x103, m2, gd_app]
      have hk3 : kI (sI T5 (la + 2) f2) (la + 3) q = b2 (gd M l q = false) := by
        rw [kI_sIo _ _ (by omega), x5i' _ (by omega)]; exact und q hq
      by_cases hi : isT M q r = true
      · rw [if_pos hi, if_pos hi]
      · rw [if_neg hi, if_neg hi]; exact hk3
  unfold fk_4_take fk_4_take_66
  have w5 : kK T5 la = 5 := (x5k la).trans y5
  have w51 : kR T5 la 1 = some (la + 2) := by rw [x5r]; exact r1
  have w7r : kR (sI T5 (la + 2) f2) la 2 = some (la + 3) := by show kR T5 la 2 = _; rw [x5r]; exact r2
  have w4 : kK (sI S (la + 1) f1) la = 5 := y5
  have w4f : kF (sI S (la + 1) f1) la 7 = Int32.ofNat l.length := f7
  rw [ckk_y y5, k_has hB hL (by omega) hr hm, bd_s, b2_f hrl, if_pos rfl, ckk_y y5, r0, bd_s, ckk_y y5, ckk_y k9, ckk_y c1.1, c1.2, f7, ck_n hlen (by omega), lt_d, k12, jI_cl (by omega), S4]
  rw [ckk_y w4, ckk_y w4, w4f, hone, hT5, lt_d, ckk_y w5, w51, bd_s, ckk_y j9, ckk_y w5, ckk_y ((x5k _).trans c2.1), x5l, c2.2, j12, ck_n hr (by omega), lt_d, jI_cl (by omega), x5f, S7]
  rw [ckk_y k7, w7r, bd_s, ckk_y k7, m1, bd_s, ckk_y i9, i13]
  rcases hch with h | ⟨c, hc, h⟩
  · rw [h, if_pos (by decide)]
    refine ⟨T10, rfl, fin T10 (cEq_refl _ _) (fun _ => rfl) rfl (fun c hc => ?_)⟩
    have : chL M ch (l ++ [r]) c = chL M ch l c := by
      unfold chL
      rw [List.filter_append]
      have hne : ¬ ch r = Int32.ofNat c := fun q => jI_ne (show c < 2147483648 by omega) (q.symm.trans h)
      have : List.filter (fun r => decide (ch r = Int32.ofNat c)) [r] = [] := by simp [hne]
      rw [this, List.append_nil]
    rw [this]; exact dl10 c hc
  · obtain ⟨T12, n1, n2, n3⟩ := k_link ht hB10 y10 hc hr hm hrl ho h dl10
    rw [h, if_neg (jI_nn (by omega)), ckk_y ((e10.1 la).trans y5), n1, bd_s]
    have n4 := n2.2.2.2.2 la (by unfold inC; omega)
    exact ⟨T12, rfl, fin T12 n2 (fun k => by rw [n4.1]) n4.2.1 n3⟩
/-- a look back -/
theorem k_lookBack (hB : cBk M ra sl ch made mkO S bk) (hL : cLed M ra ch S la bk l) (ho : lOk made l) (hva : bk + 5 ≤ va ∧ va + 1 < bk + 128 ∧ la + 8 ≤ va) (hk : kK S va = 11) (hr1 : kR S va 1 = some bk) (hr2 : kR S va 2 = some (va + 1)) (hu : kK S (va + 1) = 20 ∧ kL S (va + 1) = 1000) (htg : ∀ r ∈ l, (M.2 9 r = 13 ∨ M.2 9 r = 14) → ∃ t, rOf (M.2 13 r) = some t ∧ made t) {k : Nat} (hkl : k ≤ l.length) : ∃ S', fk_10_lookBack S va la (Int32.ofNat k) = some S' ∧ cEq (fun a => a = va ∨ a = va + 1) S S' ∧ (∀ j, j ≠ 7 → kR S' va j = kR S va j) ∧ cVw M S' va bk la (va + 1) k l := by
  have hle := ho.2.1
  obtain ⟨y, f7, came, plc, und, dl⟩ := id hL
  obtain ⟨⟨y5, y8, yr⟩, y1, y2, y3⟩ := id y
  have c1 := y1 0 (by decide)
  have r0 := yr 0 (by decide)
  simp only [Nat.add_assoc, Nat.reduceAdd, Nat.add_zero] at c1 r0
  unfold fk_10_lookBack
  generalize hT : cPi (cPr S va 7 (some la)) va 8 (Int32.ofNat k) = T
  have eT : cEq (fun a => a = va ∨ a = va + 1) S T := by rw [← hT]; exact cEq_trans (cEq_cPr _ (Or.inl rfl)) (cEq_cPi _ (Or.inl rfl))
  have tR : ∀ j, j ≠ 7 → kR T va j = kR S va j := fun j hj => by
    rw [← hT]
    show up2 S.2.2.1 va 7 (some la) va j = _
    unfold up2
    rw [if_neg (fun q => hj q.2)]; rfl
  have tR7 : kR T va 7 = some la := by
    rw [← hT]
    show up2 S.2.2.1 va 7 (some la) va 7 = _
    unfold up2
    rw [if_pos ⟨rfl, rfl⟩]
  have tF8 : kF T va 8 = Int32.ofNat k := by rw [← hT]; exact kF_cPi _ _ _ _
  have tk : kK T va = 11 := (eT.1 va).trans hk
  have q0 : kK (cPr S va 7 (some la)) va = 11 := hk
  obtain ⟨f0, g1, g2⟩ := k_fill (S := T) (p := va + 1) ((eT.1 _).trans hu.1) ((eT.2.1 _).trans hu.2) (by decide) 0
  rw [ckk_y hk, lt_d, ckk_y q0, lt_d, hT, ckk_y tk, tR 2 (by decide), hr2, bd_s, g1, bd_s]
  have hBf : ∀ f, cBk M ra sl ch made mkO (sI T (va + 1) f) bk := fun f => cBk_eq hB (cEq_trans eT (cEq_sI (W := fun a => a = va ∨ a = va + 1) f (Or.inr rfl))) (fun a ha => by rcases ha with ha | ha <;> omega)
  have hLf : ∀ f, cLed M ra ch (sI T (va + 1) f) la bk l := fun f => cLed_eq hL (cEq_trans eT (cEq_sI (W := fun a => a = va ∨ a = va + 1) f (Or.inr rfl))) (fun a ha => by rcases ha with ha | ha <;> omega)
  obtain ⟨b, h1, f, h2, h3⟩ := loopI (σ := Nat → Int32) (β := cSt) (N := k) (F := fun n f i => fk_10_lookBack_20 n (sI T (va + 1) f) va la (Int32.ofNat k) (Int32.ofNat i)) (Q := fun b => ∃ f, b = sI T (va + 1) f ∧ ∀ q, q < 1000 → f q = b2 (gd M (l.take k) q = false)) (fun i f => ∀ q, q < 1000 → f q = b2 (gd M (l.take i) q = false))
    (fun n f h => ⟨sI T (va + 1) f, by
      show fk_10_lookBack_20 (n + 1) (sI T (va + 1) f) va la (Int32.ofNat k) (Int32.ofNat k) = _
      rw [fk_10_lookBack_20, if_pos ((jI_le (by omega) (by omega)).mpr (Nat.le_refl _))], f, rfl, h⟩)
    (fun n f i hi h => Or.inl (by
      have hil : i < l.length := by omega
      obtain ⟨p1, p2⟩ := ho.2.2 _ (List.getElem_mem hil)
      have hBi := hBf f
      have hLi := hLf f
      have b1 : kK (sI T (va + 1) f) bk = 1 := hBi.1.1
      have b0 := hBi.1.2.1
      have b3 := hBi.2.1.1
      have b3' := hBi.2.1.2.1
      have bO := (hBi.2.2.1 _ p1 p2).1
      have t11 : kK (sI T (va + 1) f) va = 11 := tk
      have tr1 : kR (sI T (va + 1) f) va 1 = some bk := (tR 1 (by decide)).trans hr1
      have tr2 : kR (sI T (va + 1) f) va 2 = some (va + 1) := (tR 2 (by decide)).trans hr2
      have l5 := hLi.1.1.1
      have lr0 : kR (sI T (va + 1) f) la 0 = some (la + 1) := by have := hLi.1.1.2.2 0 (by decide); simpa using this
      have lk1 := hLi.1.2.1 0 (by decide)
      simp only [Nat.add_zero] at lk1
      have cm := (hLi.2.2.1 i hil).1
      have hone : Int32.ofNat i + 1 = Int32.ofNat (i + 1) := jI_add i 1
      obtain ⟨f', m1, m2⟩ := k_mark (S := T) (la := la) (cBk_eq hB eT (fun a ha => by rcases ha with ha | ha <;> omega)) ((eT.1 la).trans y5) (by
        have := (eT.2.2.2.2 la (by intro q; rcases q with q | q <;> omega)).2.1
        rw [this]; exact y8) (p := va + 1) (by omega) ((eT.1 _).trans hu.1) ((eT.2.1 _).trans hu.2) p1 p2 (htg _ (List.getElem_mem hil)) f
      refine ⟨f', fun q hq => ?_, ?_⟩
      · rw [m2, take_app hil, gd_app]
        by_cases c : isT M q l[i] = true
        · rw [if_pos c, if_pos c]
        · rw [if_neg c, if_neg c]; exact h q hq
      · show fk_10_lookBack_20 (n + 1) (sI T (va + 1) f) va la (Int32.ofNat k) (Int32.ofNat i) = _
        rw [fk_10_lookBack_20, if_neg (fun q => absurd ((jI_le (by omega) (by omega)).mp q) (by omega)), ckk_y t11, tr1, bd_s, ckk_y b1, b0, bd_s, ckk_y l5, lr0, bd_s, ckk_y lk1.1, lk1.2, ck_n (by omega) (by omega), ckk_y b3, b3', jI_cl (by omega), cm, ck_n p1 (by omega), lt_d, jI_cl (by omega), bO, ckk_y t11, tr2, bd_s, bd_s, ckk_y l5, m1, bd_s, lt_d, hone]))
    k 0 mFU f0 (by omega) (by unfold mFU; omega) (fun q hq => by rw [g2 q hq]; rfl)
  refine ⟨sI T (va + 1) f, by rw [← h2]; exact h1, cEq_trans eT (cEq_sI f (Or.inr rfl)), tR, ⟨tk, (tR 1 (by decide)).trans hr1, (tR 2 (by decide)).trans hr2, tR7, tF8⟩, by omega, (eT.1 _).trans hu.1, (eT.2.1 _).trans hu.2, fun q hq => by rw [kI_sI]; exact h3 q hq⟩
end V

-- part 44: the reference: made, there, stable
section R
variable {M A : mSt} {n : Nat} {l : List Nat}
/-- what a node knows is what it has applied -/
def knL (M : mSt) (n : Nat) (l : List Nat) : Prop := n < 4 ∧ ∀ r, r < 1000 → (Int32.ofNat (rM r) ≤ M.2 20 (4 * n + rN r) ↔ r ∈ l)
theorem m_knownOf (e : mEx sc M A) (hn : n < 4) {q : Nat} (hq : q < 4) : fm_knownOf A (Int32.ofNat n) (Int32.ofNat q) = some (M.2 20 (4 * n + q)) := by
  unfold fm_knownOf
  rw [show (4 : Int32) = Int32.ofNat 4 from rfl, jI_mul, jI_add, ck_n (by omega) (by omega), rd_e e (by decide) (by omega)]
theorem m_isApplied (e : mEx sc M A) (hk : knL M n l) {r : Nat} (hr : r < 1000) : fm_isApplied A (Int32.ofNat n) (Int32.ofNat r) = some (b2 (r ∈ l)) := by
  unfold fm_isApplied fm_isApplied_25 fm_isApplied_26
  rw [if_neg (jI_ne (by omega)), m_nodeOf hr, bd_s, m_knownOf e hk.1 (rN_lt hr), bd_s, m_numberOf hr, bd_s]
  by_cases h : M.2 20 (4 * n + rN r) < Int32.ofNat (rM r)
  · rw [if_pos h, b2_f (fun q => absurd ((hk.2 r hr).mpr q) (Int32.not_le.mpr h))]; rfl
  · rw [if_neg h, b2_t ((hk.2 r hr).mp (Int32.not_lt.mp h))]; rfl
def mkN (M : mSt) (l : List Nat) (x : Int32) : Bool := match rOf x with | none => false | some r => decide (r ∈ l ∧ M.2 9 r = 0)
theorem m_isMadeNow (e : mEx sc M A) (hk : knL M n l) (x : Int32) : fm_isMadeNow A (Int32.ofNat n) x = some (b2 (mkN M l x = true)) := by
  unfold fm_isMadeNow fm_isMadeNow_27 fm_isMadeNow_28 mkN
  rw [m_rowOf, bd_s]
  cases hx : rOf x with
  | none => rfl
  | some r =>
    have hr := rOf_lt hx
    show bd (fm_isApplied A (Int32.ofNat n) (Int32.ofNat r)) _ = _
    rw [m_isApplied e hk hr, bd_s]
    by_cases h1 : r ∈ l
    · rw [b2_t h1, if_neg n10]
      show ck (Int32.ofNat r) 1000 _ = _
      rw [ck_n hr (by omega), show rI (some r) = Int32.ofNat r from rfl, rd_e e (by decide) (by omega)]
      by_cases h2 : M.2 9 r = 0
      · rw [if_pos h2, b2_t (by simp [h1, h2])]; rfl
      · rw [if_neg h2, b2_f (by simp [h2])]; rfl
    · rw [b2_f h1, if_pos rfl, b2_f (by simp [h1])]; rfl
theorem m_isMade (e : mEx sc M A) (h2 : lAt M n l) (x : Int32) : fm_isMade A (Int32.ofNat n) x (Int32.ofNat l.length) = some (b2 (mkN M l x = true)) := by
  have hle := h2.2.1
  unfold fm_isMade mkN
  rw [m_rowOf, bd_s]
  have key := loopE (σ := Unit) (β := Int32) (N := l.length) (F := fun k _ i => fm_isMade_9 A k (Int32.ofNat n) (Int32.ofNat l.length) (rI (rOf x)) (Int32.ofNat i)) (R := some (b2 ((match rOf x with | none => false | some r => decide (r ∈ l ∧ M.2 9 r = 0)) = true)))
    (fun i _ => ∀ r, rOf x = some r → r ∉ l.take i)
    (fun k _ hI => by
      rw [List.take_length] at hI
      show fm_isMade_9 A (k + 1) _ _ _ (Int32.ofNat l.length) = _
      rw [fm_isMade_9, if_pos ((jI_le (by omega) (by omega)).mpr (Nat.le_refl _))]
      cases hx : rOf x with
      | none => rfl
      | some r => rw [b2_f (by simp [hI r hx])]; rfl)
    (fun k _ i hi hI => by
      have hri := (h2.2.2 i hi).2
      have hone : Int32.ofNat i + 1 = Int32.ofNat (i + 1) := jI_add i 1
      show (∃ st', _ ∧ fm_isMade_9 A (k + 1) _ _ _ (Int32.ofNat i) = _) ∨ fm_isMade_9 A (k + 1) _ _ _ (Int32.ofNat i) = _
      rw [fm_isMade_9, if_neg (fun q => absurd ((jI_le (by omega) (by omega)).mp q) (by omega)), m_rowAtL e h2 hi, bd_s]
      cases hx : rOf x with
      | none =>
        left
        refine ⟨(), (fun r hr => by cases hr), ?_⟩
        rw [if_neg (show ¬ Int32.ofNat l[i] = rI none from jI_ne (by omega)), lt_d, hone]
      | some r =>
        have hr := rOf_lt hx
        by_cases c : l[i] = r
        · right
          rw [if_pos (show Int32.ofNat l[i] = rI (some r) by rw [c]; rfl), show rI (some r) = Int32.ofNat r from rfl, ck_n hr (by omega), rd_e e (by decide) (by omega)]
          have hm : r ∈ l := c ▸ List.getElem_mem hi
          unfold fm_isMade_42
          by_cases h9 : M.2 9 r = 0
          · rw [if_pos h9, b2_t (by simp [hm, h9])]; rfl
          · rw [if_neg h9, b2_f (by simp [h9])]; rfl
        · left
          refine ⟨(), fun r' hr' => ?_, ?_⟩
          · cases hr'
            rw [take_app hi]
            intro q
            rcases List.mem_append.mp q with q | q
            · exact hI r hx q
            · exact c (List.mem_singleton.mp q).symm
          · rw [if_neg (show ¬ Int32.ofNat l[i] = rI (some r) from fun q => c ((jI_inj (by omega) (by omega)).mp q)), lt_d, hone])
    l.length 0 mFU () (by omega) (Nat.lt_of_le_of_lt hle (by decide)) (fun r _ => by simp)
  exact key
def dpP (M : mSt) (l : List Nat) (x : Int32) (r : Nat) : Bool := decide (M.2 9 r = 12) && (decide (M.2 10 r = x) && gd M l r)
def thN (M : mSt) (l : List Nat) (x : Int32) : Bool := mkN M l x && !(l.any (dpP M l x))
def wJ : Nat → Prop := fun k => k = 47 ∨ k = 48
theorem m_isThere (e : mEx sc M A) (h2 : lAt M n l) (hj : jOkL M l) (x : Int32) : ∃ B, fm_isThere A (Int32.ofNat n) x (Int32.ofNat l.length) = some (b2 (thN M l x = true), B) ∧ mEx wJ A B := by
  have hle := h2.2.1
  unfold fm_isThere thN
  rw [m_isMade e h2, bd_s]
  cases hm : mkN M l x
  · rw [if_pos bFn, b2_f (by simp)]
    exact ⟨A, rfl, mEx_refl _ _⟩
  · obtain ⟨B, b1, b2', b3, -⟩ := m_judgeL e h2 hj
    rw [if_neg bTn, b1, bd_s]
    have eB : mEx sc M B := mEx_trans e (mEx_mono b2' (fun j hj => by unfold sc; rcases hj with hj | hj <;> omega))
    refine ⟨B, ?_, b2'⟩
    have key := loopE (σ := Unit) (β := Int32 × mSt) (N := l.length) (F := fun k _ i => fm_isThere_21 k B (Int32.ofNat n) x (Int32.ofNat l.length) (Int32.ofNat i)) (R := some (b2 ((true && !(l.any (dpP M l x))) = true), B))
      (fun i _ => (l.take i).any (dpP M l x) = false)
      (fun k _ hI => by
        rw [List.take_length] at hI
        show fm_isThere_21 (k + 1) B _ _ _ (Int32.ofNat l.length) = _
        rw [fm_isThere_21, if_pos ((jI_le (by omega) (by omega)).mpr (Nat.le_refl _)), hI]; rfl)
      (fun k _ i hi hI => by
        have hri := (h2.2.2 i hi).2
        have hone : Int32.ofNat i + 1 = Int32.ofNat (i + 1) := jI_add i 1
        show (∃ st', _ ∧ fm_isThere_21 (k + 1) B _ _ _ (Int32.ofNat i) = _) ∨ fm_isThere_21 (k + 1) B _ _ _ (Int32.ofNat i) = _
        rw [fm_isThere_21, if_neg (fun q => absurd ((jI_le (by omega) (by omega)).mp q) (by omega)), m_rowAtL eB h2 hi, bd_s, ck_n hri (by omega), rd_e eB (by decide) (by omega)]
        unfold fm_isThere_71
        simp only [lt_d, hone]
        have ok : dpP M l x l[i] = false → (l.take (i + 1)).any (dpP M l x) = false := fun hk => by rw [take_app hi, List.any_append, hI, Bool.false_or]; simp [hk]
        by_cases c1 : M.2 9 l[i] = 12
        · rw [if_pos c1, ck_n hri (by omega), rd_e eB (by decide) (by omega)]
          by_cases c2 : M.2 10 l[i] = x
          · rw [if_pos c2, ck_n hri (by omega), rd_n _ _ (by omega), b3 _ hri]
            cases c3 : gd M l l[i]
            · rw [if_pos bFn]
              exact Or.inl ⟨(), ok (by unfold dpP; rw [c3]; simp), rfl⟩
            · rw [if_neg bTn]
              right
              have : l.any (dpP M l x) = true := List.any_eq_true.mpr ⟨l[i], List.getElem_mem hi, by unfold dpP; rw [c3, decide_eq_true c1, decide_eq_true c2]; rfl⟩
              rw [this]; rfl
          · rw [if_neg c2]
            exact Or.inl ⟨(), ok (by unfold dpP; rw [decide_eq_false c2]; simp), rfl⟩
        · rw [if_neg c1]
          exact Or.inl ⟨(), ok (by unfold dpP; rw [decide_eq_false c1]; rfl), rfl⟩)
      l.length 0 mFU () (by omega) (Nat.lt_of_le_of_lt hle (by decide)) rfl
    exact key
theorem m_isThereNow (e : mEx sc M A) (h2 : lAt M n l) (hj : jOkL M l) (h23 : M.2 23 n = Int32.ofNat l.length) (x : Int32) : ∃ B, fm_isThereNow A (Int32.ofNat n) x = some (b2 (thN M l x = true), B) ∧ mEx wJ A B := by
  obtain ⟨B, b1, b2'⟩ := m_isThere e h2 hj x
  have hn := h2.1
  refine ⟨B, ?_, b2'⟩
  unfold fm_isThereNow
  rw [ck_n hn (by omega), rd_e e (by decide) (by omega), h23, b1, bd_s]
  show ckz (b2 _) _ = _
  rw [ckz_b]
theorem m_kindOf (e : mEx sc M A) {x : Int32} {r : Nat} (hx : rOf x = some r) : fm_kindOf A x = some (M.2 12 r) := by
  have hr := rOf_lt hx
  unfold fm_kindOf
  rw [m_rowOf, bd_s, hx, show rI (some r) = Int32.ofNat r from rfl, ck_n hr (by omega), rd_e e (by decide) (by omega)]
theorem m_ruleOf (e : mEx sc M A) {x : Int32} {r kd p : Nat} (hx : rOf x = some r) (hk : M.2 12 r = Int32.ofNat kd) (hkd : kd < 8) (hp : p < 6) : fm_ruleOf A x (Int32.ofNat p) = some (M.2 6 (6 * kd + p)) := by
  unfold fm_ruleOf
  rw [m_kindOf e hx, bd_s, hk, show (6 : Int32) = Int32.ofNat 6 from rfl, jI_mul, jI_add, ck_n (by omega) (by omega), rd_e e (by decide) (by omega)]
theorem m_seenOf (e : mEx sc M A) (hn : n < 4) {m q : Nat} (hm : m < 4) (hq : q < 4) : fm_seenOf A (Int32.ofNat n) (Int32.ofNat m) (Int32.ofNat q) = some (if m = n then M.2 20 (4 * n + q) else M.2 21 (16 * n + 4 * m + q)) := by
  unfold fm_seenOf fm_seenOf_29
  by_cases c : m = n
  · rw [if_pos (by rw [c]), if_pos c, m_knownOf e hn hq, bd_s]
  · rw [if_neg (fun q => c ((jI_inj (by omega) (by omega)).mp q)), if_neg c, show (16 : Int32) = Int32.ofNat 16 from rfl, show (4 : Int32) = Int32.ofNat 4 from rfl, jI_mul, jI_mul, jI_add, jI_add, ck_n (by omega) (by omega), rd_e e (by decide) (by omega)]
/-- with all, as the reference finds it -/
def sbP (M : mSt) (n r : Nat) : Bool := (List.range 4).all (fun m => decide (m = n ∨ Int32.ofNat (rM r) ≤ M.2 21 (16 * n + 4 * m + rN r)))
theorem m_isStable (e : mEx sc M A) (hn : n < 4) {r : Nat} (hr : r < 1000) : fm_isStable A (Int32.ofNat n) (Int32.ofNat r) = some (b2 (sbP M n r = true)) := by
  unfold fm_isStable sbP
  have key := loopE (σ := Unit) (β := Int32) (N := 4) (F := fun k _ i => fm_isStable_2 A k (Int32.ofNat n) (Int32.ofNat r) (Int32.ofNat i)) (R := some (b2 (((List.range 4).all (fun m => decide (m = n ∨ Int32.ofNat (rM r) ≤ M.2 21 (16 * n + 4 * m + rN r)))) = true)))
    (fun i _ => ∀ m, m < i → m = n ∨ Int32.ofNat (rM r) ≤ M.2 21 (16 * n + 4 * m + rN r))
    (fun k _ hI => by
      show fm_isStable_2 A (k + 1) _ _ (Int32.ofNat 4) = _
      rw [fm_isStable_2, if_pos (by decide), b2_t]
      · rfl
      · rw [List.all_eq_true]
        intro m hm
        exact decide_eq_true (hI m (List.mem_range.mp hm)))
    (fun k _ i hi hI => by
      have hone : Int32.ofNat i + 1 = Int32.ofNat (i + 1) := jI_add i 1
      show (∃ st', _ ∧ fm_isStable_2 A (k + 1) _ _ (Int32.ofNat i) = _) ∨ fm_isStable_2 A (k + 1) _ _ (Int32.ofNat i) = _
      rw [fm_isStable_2, if_neg (jK 4 4 (b := i) rfl (by omega) (by decide))]
      unfold fm_isStable_31
      simp only [lt_d, hone]
      by_cases c : i = n
      · rw [if_pos (by rw [c])]
        refine Or.inl ⟨(), fun m hm => ?_, rfl⟩
        by_cases em : m = i
        · exact Or.inl (em.trans c)
        · exact hI m (by omega)
      · rw [if_neg (fun q => c ((jI_inj (by omega) (by omega)).mp q)), m_nodeOf hr, bd_s, m_seenOf e hn hi (rN_lt hr), bd_s, m_numberOf hr, bd_s, if_neg c]
        by_cases d : Int32.ofNat (rM r) ≤ M.2 21 (16 * n + 4 * i + rN r)
        · rw [if_pos d]
          refine Or.inl ⟨(), fun m hm => ?_, rfl⟩
          by_cases em : m = i
          · subst em; exact Or.inr d
          · exact hI m (by omega)
        · rw [if_neg d]
          right
          rw [b2_f]
          · rfl
          · intro q
            rw [List.all_eq_true] at q
            have := of_decide_eq_true (q i (List.mem_range.mpr hi))
            exact this.elim c d)
    4 0 mFU () (by omega) (by decide) (fun m hm => absurd hm (by omega))
  exact key
end R

