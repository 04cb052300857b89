-- part 39: the class's texts
/-- a line of links -/
def lkd (nx : Nat → Int32) : Nat → List Nat → Prop
  | prev, [] => nx prev = 0
  | prev, r :: L => nx prev = Int32.ofNat (r + 1) ∧ lkd nx (r + 1) L
theorem lkd_cong {nx nx' : Nat → Int32} : ∀ {L : List Nat} {prev : Nat}, nx' prev = nx prev → (∀ q ∈ L, nx' (q + 1) = nx (q + 1)) → lkd nx prev L → lkd nx' prev L := by
  intro L
  induction L with
  | nil => intro prev h _ h2; exact h.trans h2
  | cons r L ih => intro prev h h1 h2; exact ⟨h.trans h2.1, ih (h1 r List.mem_cons_self) (fun q hq => h1 q (List.mem_cons_of_mem _ hq)) h2.2⟩
theorem lkd_head {nx : Nat → Int32} {L : List Nat} {r : Nat} (h : lkd nx 0 L) (hr : r ∉ L) : lkd (upd (upd nx (r + 1) (nx 0)) 0 (Int32.ofNat (r + 1))) 0 (r :: L) := by
  refine ⟨upd_s _ _ _, ?_⟩
  cases L with
  | nil =>
    show upd (upd nx (r + 1) (nx 0)) 0 _ (r + 1) = 0
    rw [upd_o _ _ (by omega), upd_s]; exact h
  | cons q L =>
    refine ⟨by rw [upd_o _ _ (by omega), upd_s]; exact h.1, ?_⟩
    refine lkd_cong ?_ ?_ h.2
    · have : q ≠ r := fun e => hr (e ▸ List.mem_cons_self)
      rw [upd_o _ _ (by omega), upd_o _ _ (by omega)]
    · intro p hp
      have : p ≠ r := fun e => hr (e ▸ List.mem_cons_of_mem _ hp)
      rw [upd_o _ _ (by omega), upd_o _ _ (by omega)]
theorem lkd_insA {nx : Nat → Int32} {t r : Nat} (htr : t ≠ r) : ∀ {L : List Nat} {prev : Nat}, L.Nodup → t ∈ L → r ∉ L → prev ≠ t + 1 → prev ≠ r + 1 → lkd nx prev L → lkd (upd (upd nx (r + 1) (nx (t + 1))) (t + 1) (Int32.ofNat (r + 1))) prev (insA t r L) := by
  intro L
  induction L with
  | nil => intro prev _ h; cases h
  | cons q L ih =>
    intro prev hn ht hr h1 h2 h
    have hn' := List.nodup_cons.mp hn
    have hq : q ≠ r := fun e => hr (e ▸ List.mem_cons_self)
    have hr' : r ∉ L := fun e => hr (List.mem_cons_of_mem _ e)
    unfold insA
    by_cases e : q = t
    · subst e
      rw [if_pos rfl]
      refine ⟨by rw [upd_o _ _ h1, upd_o _ _ h2]; exact h.1, upd_s _ _ _, ?_⟩
      cases L with
      | nil =>
        show upd (upd nx (r + 1) (nx (q + 1))) (q + 1) _ (r + 1) = 0
        rw [upd_o _ _ (by omega), upd_s]; exact h.2
      | cons p L =>
        refine ⟨by rw [upd_o _ _ (by omega), upd_s]; exact h.2.1, lkd_cong ?_ ?_ h.2.2⟩
        · have a1 : p ≠ r := fun e => hr' (e ▸ List.mem_cons_self)
          have a2 : p ≠ q := fun e => hn'.1 (e ▸ List.mem_cons_self)
          rw [upd_o _ _ (by omega), upd_o _ _ (by omega)]
        · intro x hx
          have a1 : x ≠ r := fun e => hr' (e ▸ List.mem_cons_of_mem _ hx)
          have a2 : x ≠ q := fun e => hn'.1 (e ▸ List.mem_cons_of_mem _ hx)
          rw [upd_o _ _ (by omega), upd_o _ _ (by omega)]
    · rw [if_neg e]
      refine ⟨by rw [upd_o _ _ h1, upd_o _ _ h2]; exact h.1, ih hn'.2 ?_ hr' (by omega) (by omega) h.2⟩
      rcases List.mem_cons.mp ht with h5 | h5
      · exact absurd h5.symm e
      · exact h5
/-- the text's own cells -/
def txA (S : cSt) (tx bk : Nat) : Prop := (kK S tx = 10 ∧ kR S tx 0 = some (tx + 1) ∧ kR S tx 2 = some bk ∧ kR S tx 3 = some (tx + 2) ∧ kR S tx 4 = some (tx + 3)) ∧ (kK S (tx + 1) = 30 ∧ kL S (tx + 1) = 1000 ∧ kK S (tx + 2) = 20 ∧ kL S (tx + 2) = 1001 ∧ kK S (tx + 3) = 20 ∧ kL S (tx + 3) = 1001)
def inT (tx : Nat) : Nat → Prop := fun a => tx ≤ a ∧ a < tx + 4
theorem wI_sI2 (S : cSt) {a b : Nat} (i : Nat) (f g : Nat → Int32) (x : Int32) (h : a ≠ b) : cWi (sI (sI S a f) b g) a i x = sI (sI S a (upd f i x)) b g := by
  rw [cWi_sI, kI_sIo _ _ h, kI_sI]
  unfold sI
  congr 4
  funext c
  unfold upr
  by_cases h1 : c = a
  · subst h1; simp [h]
  · simp [h1]
theorem exN {α : Type} {c : Prop} [Decidable c] {A B : Option α} {Q : α → Prop} (h : ¬ c) (hB : ∃ b, B = some b ∧ Q b) : ∃ b, (if c then A else B) = some b ∧ Q b := by rw [if_neg h]; exact hB
theorem exY {α : Type} {c : Prop} [Decidable c] {A B : Option α} {Q : α → Prop} (h : c) (hA : ∃ b, A = some b ∧ Q b) : ∃ b, (if c then A else B) = some b ∧ Q b := by rw [if_pos h]; exact hA
section V
variable {M : mSt} {ra : Nat → Nat} {sl ch : Nat → Int32} {made : Nat → Prop} {mkO : Nat → Option Nat} {S S' : cSt} {bk la va ua up vb tx : Nat} {l : List Nat} {W : Nat → Prop}
/-- the rows of a text that a view has -/
def apP (l : List Nat) (up r : Nat) : Bool := decide (r ∈ l.take up)
def tcL (M : mSt) (ch : Nat → Int32) (l : List Nat) (up c : Nat) : List Nat := (chL M ch l c).filter (apP l up)
/-- inserts and erases name inserts that stand earlier -/
def tcOk (M : mSt) (ch : Nat → Int32) (l : List Nat) (up c : Nat) : Prop := ∀ i (h : i < (chL M ch l c).length), apP l up (chL M ch l c)[i] = true → (M.2 9 (chL M ch l c)[i] = 9 ∧ (M.2 13 (chL M ch l c)[i] = 0 ∨ ∃ t, rOf (M.2 13 (chL M ch l c)[i]) = some t ∧ t ∈ ((chL M ch l c).take i).filter (apP l up) ∧ M.2 9 t = 9)) ∨ (M.2 9 (chL M ch l c)[i] = 10 ∧ ∃ t, rOf (M.2 13 (chL M ch l c)[i]) = some t ∧ t ∈ ((chL M ch l c).take i).filter (apP l up) ∧ M.2 9 t = 9)
def inP9 (M : mSt) (r : Nat) : Bool := decide (M.2 9 r = 9)
/-- what stands, of the rows P -/
def sdP (M : mSt) (l : List Nat) (up : Nat) (P : List Nat) (r : Nat) : Bool := gv M l up r && !(P.any (fun e => decide (M.2 9 e = 10) && (decide (M.2 13 e = Int32.ofNat (rNm r)) && gv M l up e)))
theorem cPi_cPi (S : cSt) (a k : Nat) (x y : Int32) : cPi (cPi S a k x) a k y = cPi S a k y := by
  unfold cPi
  congr 2
  funext b j
  unfold up2
  by_cases h : b = a ∧ j = k <;> simp [h]
theorem kF_cPi (S : cSt) (a k : Nat) (x : Int32) : kF (cPi S a k x) a k = x := by
  show up2 S.2.1 a k x a k = x
  unfold up2
  rw [if_pos ⟨rfl, rfl⟩]
theorem kF_cPo (S : cSt) {a b k j : Nat} (x : Int32) (h : ¬ (b = a ∧ j = k)) : kF (cPi S a k x) b j = kF S b j := by
  show up2 S.2.1 a k x b j = S.2.1 b j
  unfold up2
  rw [if_neg h]
theorem k_gather (hB : cBk M ra sl ch made mkO S bk) (hT : txA S tx bk) (hsep : bk + 5 ≤ tx) {Ln : List Nat} {gn : Nat → Bool} (hn : Ln.length ≤ 1000) (hm : ∀ r ∈ Ln, r < 1000 ∧ made r) (hl : lkd (kI S (tx + 2)) 0 Ln) (hg : ∀ r ∈ Ln, kI S (tx + 3) (r + 1) = b2 (gn r = false)) : ∃ S', fk_9_gather S tx = some S' ∧ cEq (fun a => a = tx ∨ a = tx + 1) S S' ∧ kR S' tx = kR S tx ∧ (∀ k, k ≠ 1 → kF S' tx k = kF S tx k) ∧ kF S' tx 1 = Int32.ofNat (Ln.filter gn).length ∧ ∀ i (h : i < (Ln.filter gn).length), kO S' (tx + 1) i = some (ra (Ln.filter gn)[i]) := by
  obtain ⟨⟨t0, t1, t2, t3, t4⟩, u1, u1', u2, u2', u3, u3'⟩ := hT
  obtain ⟨⟨b1, b2', -⟩, ⟨b5, b6, -⟩, -⟩ := id hB
  have key : ∀ (R P : List Nat) (fu : Nat) (sh : Nat → Option Nat) (prev : Nat), R.length < fu → P.length + R.length ≤ 1000 → (∀ r ∈ R, r < 1000 ∧ made r) → (∀ r ∈ R, kI S (tx + 3) (r + 1) = b2 (gn r = false)) → lkd (kI S (tx + 2)) prev R → (∀ i (h : i < (P.filter gn).length), sh i = some (ra (P.filter gn)[i])) → ∃ S', fk_9_gather_14 fu (cPi (sO S (tx + 1) sh) tx 1 (Int32.ofNat (P.filter gn).length)) tx (kI S (tx + 2) prev) (Int32.ofNat P.length) = some S' ∧ cEq (fun a => a = tx ∨ a = tx + 1) S S' ∧ kR S' tx = kR S tx ∧ (∀ k, k ≠ 1 → kF S' tx k = kF S tx k) ∧ kF S' tx 1 = Int32.ofNat ((P ++ R).filter gn).length ∧ ∀ i (h : i < ((P ++ R).filter gn).length), kO S' (tx + 1) i = some (ra ((P ++ R).filter gn)[i]) := by
    intro R
    induction R with
    | nil =>
      intro P fu sh prev hf hle hmR hgR hl hsh
      obtain ⟨fu, rfl⟩ : ∃ q, fu = q + 1 := ⟨fu - 1, by simp at hf; omega⟩
      have h0 : kI S (tx + 2) prev = 0 := hl
      rw [fk_9_gather_14, h0]
      refine ⟨cPi (sO S (tx + 1) sh) tx 1 (Int32.ofNat (P.filter gn).length), ?_, cEq_trans (cEq_sO sh (Or.inr rfl)) (cEq_cPi _ (Or.inl rfl)), rfl, fun k hk => kF_cPo _ _ (fun q => hk q.2), ?_, ?_⟩
      · by_cases c : (1000 : Int32) ≤ Int32.ofNat P.length
        · rw [if_pos c]; rfl
        · rw [if_neg c, if_pos (by decide)]; rfl
      · rw [List.append_nil]; exact kF_cPi _ _ _ _
      · rw [List.append_nil]
        intro i hi
        show kO (sO S (tx + 1) sh) (tx + 1) i = _
        rw [kO_sO]; exact hsh i hi
    | cons r R ih =>
      intro P fu sh prev hf hle hmR hgR hl hsh
      obtain ⟨fu, rfl⟩ : ∃ q, fu = q + 1 := ⟨fu - 1, by simp at hf; omega⟩
      obtain ⟨hl1, hl2⟩ := hl
      obtain ⟨hr, hmd⟩ := hmR r List.mem_cons_self
      have hgr := hgR r List.mem_cons_self
      obtain ⟨k1, k9, -⟩ := hB.2.2.1 r hr hmd
      rw [List.length_cons] at hf hle
      have hpl : (P.filter gn).length ≤ P.length := List.length_filter_le _ _
      rw [fk_9_gather_14, hl1]
      refine exN (fun q => absurd ((jI_le (a := 1000) (b := P.length) (by omega) (by omega)).mp q) (by omega)) ?_
      refine exN (jI_p (a := r + 1) (by omega) (by omega)) ?_
      have x4 : kR (cPi (sO S (tx + 1) sh) tx 1 (Int32.ofNat (P.filter gn).length)) tx 4 = some (tx + 3) := t4
      have x3 : ∀ k sh', kR (cPi (sO S (tx + 1) sh') tx 1 k) tx 3 = some (tx + 2) := fun _ _ => t3
      have y3 : kI (cPi (sO S (tx + 1) sh) tx 1 (Int32.ofNat (P.filter gn).length)) (tx + 3) = kI S (tx + 3) := rfl
      have y2 : ∀ k sh', kI (cPi (sO S (tx + 1) sh') tx 1 k) (tx + 2) = kI S (tx + 2) := fun _ _ => rfl
      have z0 : ∀ k sh', kK (cPi (sO S (tx + 1) sh') tx 1 k) tx = 10 := fun _ _ => t0
      have z2 : ∀ k sh', kK (cPi (sO S (tx + 1) sh') tx 1 k) (tx + 2) = 20 := fun _ _ => u2
      have z2' : ∀ k sh', kL (cPi (sO S (tx + 1) sh') tx 1 k) (tx + 2) = 1001 := fun _ _ => u2'
      have z3 : kK (cPi (sO S (tx + 1) sh) tx 1 (Int32.ofNat (P.filter gn).length)) (tx + 3) = 20 := u3
      have z3' : kL (cPi (sO S (tx + 1) sh) tx 1 (Int32.ofNat (P.filter gn).length)) (tx + 3) = 1001 := u3'
      have hone : Int32.ofNat P.length + 1 = Int32.ofNat (P.length + 1) := jI_add P.length 1
      have go : ∀ k sh', fk_9_gather_64 (fk_9_gather_14 fu) (cPi (sO S (tx + 1) sh') tx 1 k) tx (Int32.ofNat (r + 1)) (Int32.ofNat P.length) = fk_9_gather_14 fu (cPi (sO S (tx + 1) sh') tx 1 k) tx (kI S (tx + 2) (r + 1)) (Int32.ofNat (P.length + 1)) := fun k sh' => by
        unfold fk_9_gather_64
        rw [ckk_y (z0 _ _), x3, bd_s, ckk_y (z2 _ _), z2', ck_n (by omega) (by omega), lt_d, jI_cl (by omega), y2, lt_d, hone]
      rw [ckk_y (z0 _ _), x4, bd_s, ckk_y z3, z3', ck_n (by omega) (by omega), jI_cl (by omega), y3, hgr]
      have happ : P ++ r :: R = (P ++ [r]) ++ R := by simp
      have hP1 : (P ++ [r]).length = P.length + 1 := by simp
      cases hgn : gn r
      · rw [if_neg bFF, go]
        have e1 : (P ++ [r]).filter gn = P.filter gn := by rw [List.filter_append]; simp [hgn]
        have := ih (P ++ [r]) fu sh (r + 1) (by omega) (by rw [hP1]; omega) (fun q hq => hmR q (List.mem_cons_of_mem _ hq)) (fun q hq => hgR q (List.mem_cons_of_mem _ hq)) hl2 (by rw [e1]; exact hsh)
        rw [e1, hP1, ← happ] at this
        exact this
      · have e1 : (P ++ [r]).filter gn = P.filter gn ++ [r] := by rw [List.filter_append]; simp [hgn]
        have hsub : Int32.ofNat (r + 1) - (1 : Int32) = Int32.ofNat r := by show Int32.ofNat (r + 1) - Int32.ofNat 1 = _; rw [jI_sub (by omega)]; rfl
        have x0 : kR (cPi (sO S (tx + 1) sh) tx 1 (Int32.ofNat (P.filter gn).length)) tx 0 = some (tx + 1) := t1
        have x2 : kR (cPi (sO S (tx + 1) sh) tx 1 (Int32.ofNat (P.filter gn).length)) tx 2 = some bk := t2
        have xb : kK (cPi (sO S (tx + 1) sh) tx 1 (Int32.ofNat (P.filter gn).length)) bk = 1 := b1
        have xb0 : kR (cPi (sO S (tx + 1) sh) tx 1 (Int32.ofNat (P.filter gn).length)) bk 0 = some (bk + 1) := b2'
        have xb1 : kK (cPi (sO S (tx + 1) sh) tx 1 (Int32.ofNat (P.filter gn).length)) (bk + 1) = 30 := b5
        have xb1' : kL (cPi (sO S (tx + 1) sh) tx 1 (Int32.ofNat (P.filter gn).length)) (bk + 1) = 1000 := b6
        have xO : kO (cPi (sO S (tx + 1) sh) tx 1 (Int32.ofNat (P.filter gn).length)) (bk + 1) r = some (ra r) := by
          show kO (sO S (tx + 1) sh) (bk + 1) r = _
          rw [kO_sOo _ _ (by omega)]; exact k1
        have xs : kK (cPi (sO S (tx + 1) sh) tx 1 (Int32.ofNat (P.filter gn).length)) (tx + 1) = 30 := u1
        have xs' : kL (cPi (sO S (tx + 1) sh) tx 1 (Int32.ofNat (P.filter gn).length)) (tx + 1) = 1000 := u1'
        have xr : kK (cPi (sO S (tx + 1) sh) tx 1 (Int32.ofNat (P.filter gn).length)) (ra r) = 9 := k9
        have hwo : ∀ o, cWo (cPi (sO S (tx + 1) sh) tx 1 (Int32.ofNat (P.filter gn).length)) (tx + 1) (P.filter gn).length o = cPi (sO S (tx + 1) (upo sh (P.filter gn).length o)) tx 1 (Int32.ofNat (P.filter gn).length) := fun o => by
          rw [← wO_sO]; rfl
        rw [if_pos bTF, ckk_y (z0 _ _), x0, bd_s, ckk_y (z0 _ _), ckk_y (z0 _ _), x2, bd_s, ckk_y xb, xb0, bd_s, ckk_y xb1, xb1', hsub, ck_n hr (by omega), lt_d, jI_cl (by omega), xO, ckk_y xs, xs', kF_cPi, ck_n (by omega) (by omega)]
        show ∃ S', ckk (cPi (sO S (tx + 1) sh) tx 1 (Int32.ofNat (P.filter gn).length)) (ra r) 9 _ = _ ∧ _
        rw [ckk_y xr, lt_d, jI_cl (by omega), hwo, ckk_y (z0 _ _), ckk_y (z0 _ _), kF_cPi, lt_d, cPi_cPi, show Int32.ofNat (P.filter gn).length + 1 = Int32.ofNat ((P.filter gn).length + 1) from jI_add _ 1, go]
        have := ih (P ++ [r]) fu (upo sh (P.filter gn).length (some (ra r))) (r + 1) (by omega) (by rw [hP1]; omega) (fun q hq => hmR q (List.mem_cons_of_mem _ hq)) (fun q hq => hgR q (List.mem_cons_of_mem _ hq)) hl2 (by
          rw [e1]
          intro i hi
          by_cases ei : i = (P.filter gn).length
          · subst ei
            rw [upo_s, List.getElem_append_right (Nat.le_refl _)]
            simp
          · have hi2 : i < (P.filter gn).length := by simp at hi; omega
            rw [upo_o _ _ ei, hsh i hi2, List.getElem_append_left hi2])
        rw [e1, hP1, ← happ] at this
        rw [show (P.filter gn ++ [r]).length = (P.filter gn).length + 1 by simp] at this
        exact this
  have := key Ln [] mFU (kO S (tx + 1)) 0 (Nat.lt_of_le_of_lt hn (by decide)) (by simpa using hn) hm hg hl (fun i hi => absurd hi (by simp))
  unfold fk_9_gather
  have q0 : kK (cPi S tx 1 0) tx = 10 := t0
  have q3 : kR (cPi S tx 1 0) tx 3 = some (tx + 2) := t3
  have q2 : kK (cPi S tx 1 0) (tx + 2) = 20 := u2
  have q2' : kL (cPi S tx 1 0) (tx + 2) = 1001 := u2'
  rw [ckk_y t0, lt_d, ckk_y q0, q3, bd_s, ckk_y q2, q2']
  rw [sO_id] at this
  exact this
end V
