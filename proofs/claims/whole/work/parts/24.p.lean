-- part 24: the class's book, ledger and view; what a view answers of one chain
/-- the book at bk: which rows are made, which row made a slot -/
def cBk (M : mSt) (ra : Nat → Nat) (sl ch : Nat → Int32) (made : Nat → Prop) (mkO : Nat → Option Nat) (S : cSt) (bk : Nat) : Prop :=
  (kK S bk = 1 ∧ kR S bk 0 = some (bk + 1) ∧ kR S bk 1 = some (bk + 2) ∧ kR S bk 2 = some (bk + 3) ∧ kR S bk 3 = some (bk + 4) ∧ ∀ r, made r → bk + 128 < ra r) ∧
  (kK S (bk + 1) = 30 ∧ kL S (bk + 1) = 1000 ∧ kK S (bk + 2) = 30 ∧ kL S (bk + 2) = 48 ∧ kK S (bk + 3) = 20 ∧ kL S (bk + 3) = 4 ∧ kK S (bk + 4) = 20 ∧ kL S (bk + 4) = 4) ∧
  (∀ r, r < 1000 → made r → kO S (bk + 1) r = some (ra r) ∧ cRow M sl ch S r (ra r)) ∧ (∀ r, r < 1000 → ¬ made r → kO S (bk + 1) r = none) ∧
  ∀ j, j < 48 → kO S (bk + 2) j = (mkO j).map ra ∧ ∀ r, mkO j = some r → r < 1000 ∧ made r ∧ M.2 9 r = 0 ∧ sl r = Int32.ofNat j
/-- a chain of rows, linked both ways -/
def cDl (ra : Nat → Nat) (S : cSt) (la c : Nat) (L : List Nat) : Prop :=
  kO S (la + 6) c = nxL ra L 0 ∧ kO S (la + 7) c = pvL ra L L.length ∧ ∀ i (h : i < L.length), kO S (la + 4) L[i] = pvL ra L i ∧ kO S (la + 5) L[i] = nxL ra L (i + 1)
/-- the chain number c of the rows l -/
def chL (M : mSt) (ch : Nat → Int32) (l : List Nat) (c : Nat) : List Nat := srt (rK M) (l.filter (fun r => decide (ch r = Int32.ofNat c)))
def cLay (S : cSt) (la bk : Nat) : Prop :=
  (kK S la = 5 ∧ kR S la 8 = some bk ∧ ∀ k, k < 7 → kR S la k = some (la + 1 + k)) ∧ (∀ k, k < 3 → kK S (la + 1 + k) = 20 ∧ kL S (la + 1 + k) = 1000) ∧ (∀ k, k < 2 → kK S (la + 4 + k) = 30 ∧ kL S (la + 4 + k) = 1000) ∧ ∀ k, k < 2 → kK S (la + 6 + k) = 30 ∧ kL S (la + 6 + k) = 385
/-- what links of a ledger may hold: rows that it has applied -/
def lkR (ra : Nat → Nat) (S : cSt) (la : Nat) (l : List Nat) : Prop := ∀ r, r < 1000 → (kO S (la + 4) r = none ∨ ∃ q, q ∈ l ∧ kO S (la + 4) r = some (ra q)) ∧ (kO S (la + 5) r = none ∨ ∃ q, q ∈ l ∧ kO S (la + 5) r = some (ra q))
/-- the ledger at la has applied the rows l, in this order -/
def cLed (M : mSt) (ra : Nat → Nat) (ch : Nat → Int32) (S : cSt) (la bk : Nat) (l : List Nat) : Prop :=
  cLay S la bk ∧ kF S la 7 = Int32.ofNat l.length ∧ (∀ i (h : i < l.length), kI S (la + 1) i = Int32.ofNat l[i] ∧ kI S (la + 2) l[i] = Int32.ofNat (i + 1)) ∧ (∀ r, r < 1000 → r ∉ l → kI S (la + 2) r = 0) ∧
  (∀ r, r < 1000 → kI S (la + 3) r = b2 (gd M l r = false)) ∧ (∀ c, c < 385 → cDl ra S la c (chL M ch l c)) ∧ lkR ra S la l
/-- a view at va of the first up rows of a ledger, ua: what is undone there -/
def cVw (M : mSt) (S : cSt) (va bk la ua up : Nat) (l : List Nat) : Prop :=
  (kK S va = 11 ∧ kR S va 1 = some bk ∧ kR S va 2 = some ua ∧ kR S va 7 = some la ∧ kF S va 8 = Int32.ofNat up) ∧ (up ≤ 1000 ∧ kK S ua = 20 ∧ kL S ua = 1000 ∧ ∀ r, r < 1000 → kI S ua r = b2 (gd M (l.take up) r = false))
/-- what rows are seen by a view as good -/
def gv (M : mSt) (l : List Nat) (up r : Nat) : Bool := decide (r ∈ l.take up) && gd M (l.take up) r
/-- of the rows of a ledger -/
def lOk (made : Nat → Prop) (l : List Nat) : Prop := l.Nodup ∧ l.length ≤ 1000 ∧ ∀ r ∈ l, r < 1000 ∧ made r
theorem mem_take {l : List Nat} {u i : Nat} (hn : l.Nodup) (hi : i < l.length) : l[i] ∈ l.take u ↔ i < u := by
  constructor
  · intro h
    obtain ⟨j, hj, he⟩ := List.mem_iff_getElem.mp h
    rw [List.getElem_take] at he
    have hj2 : j < u ∧ j < l.length := by rw [List.length_take] at hj; omega
    have : j = i := (List.getElem_inj hn).mp he
    omega
  · intro h
    have h2 : i < (l.take u).length := by simp; omega
    have h3 : (l.take u)[i] = l[i] := List.getElem_take
    rw [← h3]; exact List.getElem_mem h2
theorem jI_p {a : Nat} (ha : a < 2147483648) (h : 0 < a) : ¬ Int32.ofNat a ≤ 0 := fun q => absurd ((jI_le (b := 0) ha (by omega)).mp q) (by omega)
section V
variable {M : mSt} {ra : Nat → Nat} {sl ch : Nat → Int32} {made : Nat → Prop} {mkO : Nat → Option Nat} {S : cSt} {bk la va ua up : Nat} {l : List Nat}
theorem cLed.rf (h : cLed M ra ch S la bk l) (k : Nat) (hk : k < 7) : kR S la k = some (la + 1 + k) := h.1.1.2.2 k hk
theorem k_isGood (hB : cBk M ra sl ch made mkO S bk) (hL : cLed M ra ch S la bk l) (hV : cVw M S va bk la ua up l) (ho : lOk made l) {r : Nat} (hr : r < 1000) (hm : made r) : fk_10_isGood S va (ra r) = some (b2 (gv M l up r = true)) := by
  obtain ⟨⟨v1, v2, v3, v4, v5⟩, v6, v7, v8, v9⟩ := hV
  obtain ⟨-, ⟨k9, -, ⟨-, -, -, k12⟩, -⟩⟩ := hB.2.2.1 r hr hm
  obtain ⟨⟨l1, l2, l3⟩, l4, l5, l6⟩ := hL.1
  have p0 := l4 1 (by decide)
  unfold fk_10_isGood fk_10_isGood_41 fk_10_isGood_42
  simp only [ckk_y v1, v4, bd_s, ckk_y l1, l3 1 (by decide), ckk_y k9, k12, ckk_y p0.1, p0.2, ck_n hr (show r < 2147483648 by omega), lt_d, jI_cl (show r < 2147483648 by omega), v3, ckk_y v7, v8, v5, v9 r hr, ckz_0, ckz_1]
  show (if kI S (la + 2) r ≤ 0 then _ else _) = _
  by_cases hmem : r ∈ l
  · obtain ⟨i, hi, rfl⟩ := List.mem_iff_getElem.mp hmem
    have hle := ho.2.1
    rw [(hL.2.2.1 i hi).2]
    rw [if_neg (jI_p (show i + 1 < 2147483648 by omega) (Nat.succ_pos i))]
    by_cases hu : i < up
    · rw [if_neg (fun q => absurd ((jI_lt (show up < 2147483648 by omega) (show i + 1 < 2147483648 by omega)).mp q) (by omega))]
      have hg : gv M l up l[i] = gd M (l.take up) l[i] := by
        unfold gv; rw [decide_eq_true ((mem_take ho.1 hi).mpr hu)]; rfl
      rw [hg]
      cases gd M (l.take up) l[i]
      · rfl
      · rfl
    · rw [if_pos ((jI_lt (show up < 2147483648 by omega) (show i + 1 < 2147483648 by omega)).mpr (by omega))]
      have hg : gv M l up l[i] = false := by
        unfold gv; rw [decide_eq_false (fun q => hu ((mem_take ho.1 hi).mp q))]; rfl
      rw [hg]; rfl
  · rw [hL.2.2.2.1 r hr hmem]
    rw [if_pos (by decide)]
    have hg : gv M l up r = false := by
      unfold gv; rw [decide_eq_false (fun q => hmem (List.mem_of_mem_take q))]; rfl
    rw [hg]; rfl
theorem chL_mem {c r : Nat} : r ∈ chL M ch l c ↔ r ∈ l ∧ ch r = Int32.ofNat c := by unfold chL; rw [mem_srt, List.mem_filter]; simp
theorem chL_len (c : Nat) : (chL M ch l c).length ≤ l.length := by unfold chL; rw [len_srt]; exact List.length_filter_le _ _
/-- what stands at the ends of a chain, and below and above a row of it, as the loops read it -/
theorem k_at {α : Type} {c : Nat} (hc : c < 385) (hL : cLed M ra ch S la bk l) (K : Option Nat → Option α) : ckk S la 5 (bd (kR S la 6) fun a2 => ckk S a2 30 (ck (Int32.ofNat c) (kL S a2) (lt (kO S a2 (Int32.toNatClampNeg (Int32.ofNat c))) K))) = K (pvL ra (chL M ch l c) (chL M ch l c).length) := by
  obtain ⟨⟨l1, l2, l3⟩, l4, l5, l6⟩ := hL.1
  have p6 := l6 1 (by decide)
  rw [ckk_y l1, l3 6 (by decide), bd_s, ckk_y p6.1, p6.2, ck_n hc (by omega), lt_d, jI_cl (by omega)]
  rw [← (hL.2.2.2.2.2.1 c hc).2.1]
theorem k_at0 {α : Type} {c : Nat} (hc : c < 385) (hL : cLed M ra ch S la bk l) (K : Option Nat → Option α) : ckk S la 5 (bd (kR S la 5) fun a2 => ckk S a2 30 (ck (Int32.ofNat c) (kL S a2) (lt (kO S a2 (Int32.toNatClampNeg (Int32.ofNat c))) K))) = K (nxL ra (chL M ch l c) 0) := by
  obtain ⟨⟨l1, l2, l3⟩, l4, l5, l6⟩ := hL.1
  have p6 := l6 0 (by decide)
  rw [ckk_y l1, l3 5 (by decide), bd_s, ckk_y p6.1, p6.2, ck_n hc (by omega), lt_d, jI_cl (by omega)]
  rw [← (hL.2.2.2.2.2.1 c hc).1]
theorem k_dn {α : Type} {c i : Nat} (hc : c < 385) (hB : cBk M ra sl ch made mkO S bk) (hL : cLed M ra ch S la bk l) (ho : lOk made l) (hi : i < (chL M ch l c).length) (K : Option Nat → Option α) :
    ckk S la 5 (bd (kR S la 3) fun a5 => ckk S (ra (chL M ch l c)[i]) 9 (ckk S a5 30 (ck (kF S (ra (chL M ch l c)[i]) 12) (kL S a5) (lt (kO S a5 (Int32.toNatClampNeg (kF S (ra (chL M ch l c)[i]) 12))) K)))) = K (pvL ra (chL M ch l c) i) := by
  obtain ⟨⟨l1, l2, l3⟩, l4, l5, l6⟩ := hL.1
  have p6 := l5 0 (by decide)
  have hm := (chL_mem.mp (List.getElem_mem hi)).1
  obtain ⟨q1, q2⟩ := ho.2.2 _ hm
  obtain ⟨-, ⟨k9, -, ⟨-, -, -, k12⟩, -⟩⟩ := hB.2.2.1 _ q1 q2
  rw [ckk_y l1, l3 3 (by decide), bd_s, ckk_y k9, ckk_y p6.1, p6.2, k12, ck_n q1 (by omega), lt_d, jI_cl (by omega)]
  rw [← ((hL.2.2.2.2.2.1 c hc).2.2 i hi).1]
theorem k_up {α : Type} {c i : Nat} (hc : c < 385) (hB : cBk M ra sl ch made mkO S bk) (hL : cLed M ra ch S la bk l) (ho : lOk made l) (hi : i < (chL M ch l c).length) (K : Option Nat → Option α) :
    ckk S la 5 (bd (kR S la 4) fun a5 => ckk S (ra (chL M ch l c)[i]) 9 (ckk S a5 30 (ck (kF S (ra (chL M ch l c)[i]) 12) (kL S a5) (lt (kO S a5 (Int32.toNatClampNeg (kF S (ra (chL M ch l c)[i]) 12))) K)))) = K (nxL ra (chL M ch l c) (i + 1)) := by
  obtain ⟨⟨l1, l2, l3⟩, l4, l5, l6⟩ := hL.1
  have p6 := l5 1 (by decide)
  have hm := (chL_mem.mp (List.getElem_mem hi)).1
  obtain ⟨q1, q2⟩ := ho.2.2 _ hm
  obtain ⟨-, ⟨k9, -, ⟨-, -, -, k12⟩, -⟩⟩ := hB.2.2.1 _ q1 q2
  rw [ckk_y l1, l3 4 (by decide), bd_s, ckk_y k9, ckk_y p6.1, p6.2, k12, ck_n q1 (by omega), lt_d, jI_cl (by omega)]
  rw [← ((hL.2.2.2.2.2.1 c hc).2.2 i hi).2]
/-- the last good row of a chain -/
def lgR (M : mSt) (ch : Nat → Int32) (l : List Nat) (up c : Nat) : Option Nat := (chL M ch l c).reverse.find? (gv M l up)
theorem k_lastGood {c : Nat} (hc : c < 385) (hB : cBk M ra sl ch made mkO S bk) (hL : cLed M ra ch S la bk l) (hV : cVw M S va bk la ua up l) (ho : lOk made l) : fk_10_lastGood S va (Int32.ofNat c) = some ((lgR M ch l up c).map ra) := by
  have v1 := hV.1.1
  have v4 := hV.1.2.2.2.1
  unfold fk_10_lastGood
  rw [ckk_y v1, v4, bd_s, k_at hc hL]
  have hlen := chL_len (M := M) (ch := ch) (l := l) c
  have hle := ho.2.1
  have key := walkD (σ := Unit) (β := Option Nat) (ra := ra) (L := chL M ch l c) (F := fun n _ o => fk_10_lastGood_10 S n va o) (step := fun s r => if gv M l up r then .inr (some (some (ra r))) else .inl s) (fin := fun _ => some none) (fun _ => True)
    (fun n st _ => by rw [fk_10_lastGood_10]; rfl)
    (fun n st i hi _ => by
      obtain ⟨q1, q2⟩ := ho.2.2 _ (chL_mem.mp (List.getElem_mem hi)).1
      show fk_10_lastGood_10 S (n + 1) va (some (ra (chL M ch l c)[i])) = _
      rw [fk_10_lastGood_10]
      show ckk S va 11 _ = _
      rw [ckk_y v1, k_isGood hB hL hV ho q1 q2, bd_s]
      cases hg : gv M l up (chL M ch l c)[i]
      · rw [if_pos (b2_f (by simp)), ckk_y v1, v4, bd_s, k_dn hc hB hL ho hi]; rfl
      · rw [if_neg (fun q => absurd (((b2_0 _).mp q)) (by simp))]; rfl)
    (fun _ _ _ _ _ _ => trivial) (chL M ch l c).length mFU () (Nat.le_refl _) (Nat.lt_of_le_of_lt (Nat.le_trans hlen hle) (by decide)) trivial
  have key' : fk_10_lastGood_10 S mFU va (pvL ra (chL M ch l c) (chL M ch l c).length) = _ := key
  rw [key', List.take_length, runL_find]
  unfold lgR
  cases List.find? (gv M l up) (chL M ch l c).reverse <;> rfl
theorem k_latestOf {c : Nat} (hc : c < 385) (hB : cBk M ra sl ch made mkO S bk) (hL : cLed M ra ch S la bk l) (hV : cVw M S va bk la ua up l) (ho : lOk made l) : fk_10_latestOf S va (Int32.ofNat c) = some (match lgR M ch l up c with | none => 0 | some r => M.2 12 r) := by
  have v1 := hV.1.1
  unfold fk_10_latestOf
  rw [ckk_y v1, k_lastGood hc hB hL hV ho, bd_s]
  cases hg : lgR M ch l up c with
  | none => rfl
  | some r =>
    have hr := List.mem_of_find?_eq_some hg
    obtain ⟨q1, q2⟩ := ho.2.2 _ (chL_mem.mp (List.mem_reverse.mp hr)).1
    obtain ⟨-, ⟨k9, ⟨-, -, -, k4, -⟩, -⟩⟩ := hB.2.2.1 _ q1 q2
    show ckk S (ra r) 9 _ = _
    rw [ckk_y k9, k4]; rfl
end V
