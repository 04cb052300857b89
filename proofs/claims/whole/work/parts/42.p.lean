-- part 42: a ledger takes a row: the links
def sT (S : cSt) (la : Nat) (o4 o5 o6 o7 : Nat → Option Nat) : cSt := (S.1, S.2.1, S.2.2.1, S.2.2.2.1, (fun b => if b = la + 4 then o4 else if b = la + 5 then o5 else if b = la + 6 then o6 else if b = la + 7 then o7 else S.2.2.2.2.1 b), S.2.2.2.2.2)
theorem sT_4 (S : cSt) (la : Nat) (o4 o5 o6 o7 : Nat → Option Nat) : kO (sT S la o4 o5 o6 o7) (la + 4) = o4 := by funext j; simp [kO, sT]
theorem sT_5 (S : cSt) (la : Nat) (o4 o5 o6 o7 : Nat → Option Nat) : kO (sT S la o4 o5 o6 o7) (la + 5) = o5 := by funext j; simp [kO, sT]
theorem sT_6 (S : cSt) (la : Nat) (o4 o5 o6 o7 : Nat → Option Nat) : kO (sT S la o4 o5 o6 o7) (la + 6) = o6 := by funext j; simp [kO, sT]
theorem sT_7 (S : cSt) (la : Nat) (o4 o5 o6 o7 : Nat → Option Nat) : kO (sT S la o4 o5 o6 o7) (la + 7) = o7 := by funext j; simp [kO, sT]
theorem sT_o (S : cSt) {la b : Nat} (o4 o5 o6 o7 : Nat → Option Nat) (h : b < la + 4 ∨ la + 8 ≤ b) : kO (sT S la o4 o5 o6 o7) b = kO S b := by
  funext j
  have h4 : b ≠ la + 4 := by omega
  have h5 : b ≠ la + 5 := by omega
  have h6 : b ≠ la + 6 := by omega
  have h7 : b ≠ la + 7 := by omega
  simp [kO, sT, h4, h5, h6, h7]
theorem sT_id (S : cSt) (la : Nat) : sT S la (kO S (la + 4)) (kO S (la + 5)) (kO S (la + 6)) (kO S (la + 7)) = S := by
  unfold sT kO
  have : (fun b => if b = la + 4 then S.2.2.2.2.1 (la + 4) else if b = la + 5 then S.2.2.2.2.1 (la + 5) else if b = la + 6 then S.2.2.2.2.1 (la + 6) else if b = la + 7 then S.2.2.2.2.1 (la + 7) else S.2.2.2.2.1 b) = S.2.2.2.2.1 := by
    funext b
    by_cases h4 : b = la + 4
    · rw [if_pos h4, h4]
    · rw [if_neg h4]
      by_cases h5 : b = la + 5
      · rw [if_pos h5, h5]
      · rw [if_neg h5]
        by_cases h6 : b = la + 6
        · rw [if_pos h6, h6]
        · rw [if_neg h6]
          by_cases h7 : b = la + 7
          · rw [if_pos h7, h7]
          · rw [if_neg h7]
  show (S.1, S.2.1, S.2.2.1, S.2.2.2.1, _, S.2.2.2.2.2) = S
  rw [this]
theorem sT_w (S : cSt) {la : Nat} (o4 o5 o6 o7 : Nat → Option Nat) (i : Nat) (x : Option Nat) : cWo (sT S la o4 o5 o6 o7) (la + 4) i x = sT S la (upo o4 i x) o5 o6 o7 ∧ cWo (sT S la o4 o5 o6 o7) (la + 5) i x = sT S la o4 (upo o5 i x) o6 o7 ∧ cWo (sT S la o4 o5 o6 o7) (la + 6) i x = sT S la o4 o5 (upo o6 i x) o7 ∧ cWo (sT S la o4 o5 o6 o7) (la + 7) i x = sT S la o4 o5 o6 (upo o7 i x) := by
  refine ⟨?_, ?_, ?_, ?_⟩
  all_goals
    unfold cWo sT
    congr 5
    funext b j
    unfold up2 upo
    by_cases h4 : b = la + 4
    · subst h4; by_cases hj : j = i <;> simp [hj]
    · by_cases h5 : b = la + 5
      · subst h5; by_cases hj : j = i <;> simp [hj]
      · by_cases h6 : b = la + 6
        · subst h6; by_cases hj : j = i <;> simp [hj]
        · by_cases h7 : b = la + 7
          · subst h7; by_cases hj : j = i <;> simp [hj]
          · simp [h4, h5, h6, h7]
def inC (la : Nat) : Nat → Prop := fun a => la + 4 ≤ a ∧ a < la + 8
theorem cEq_sT (S : cSt) (la : Nat) (o4 o5 o6 o7 : Nat → Option Nat) : cEq (inC la) S (sT S la o4 o5 o6 o7) :=
  ⟨fun _ => rfl, fun _ => rfl, rfl, fun _ => rfl, fun a ha => ⟨rfl, rfl, rfl, sT_o S o4 o5 o6 o7 (by unfold inC at ha; omega)⟩⟩
section V
variable {M : mSt} {ra : Nat → Nat} {sl ch : Nat → Int32} {made : Nat → Prop} {mkO : Nat → Option Nat} {S S' : cSt} {bk la va ua up vb tx : Nat} {l : List Nat} {W : Nat → Prop}
theorem ckqO {T : cSt} {o : Option Nat} {α : Type} {K : Option α} (ho : ∀ a, o = some a → kK T a = 9) : ckq T o 9 K = K := by
  cases o with
  | none => rfl
  | some a => exact ckk_y (ho a rfl)
set_option maxHeartbeats 4000000 in
theorem k_link39 (hB : cBk M ra sl ch made mkO S bk) (hy : cLay S la bk) {L : List Nat} {c k r : Nat} (hc : c < 385) (hk : k ≤ L.length) (hr : r < 1000) (hm : made r) (hLm : ∀ q ∈ L, q < 1000 ∧ made q) (hch : ch r = Int32.ofNat c) (o4 o5 o6 o7 : Nat → Option Nat) : ∃ o4' o5' o6' o7', fk_4_link_39 (sT S la o4 o5 o6 o7) la (ra r) (nxL ra L k) (pvL ra L k) = some (sT S la o4' o5' o6' o7') ∧
    o4' = (if h : k < L.length then upo (upo o4 r (pvL ra L k)) L[k] (some (ra r)) else upo o4 r (pvL ra L k)) ∧
    o5' = (if h : k - 1 < L.length ∧ 0 < k then upo (upo o5 r (nxL ra L k)) (L[k - 1]'h.1) (some (ra r)) else upo o5 r (nxL ra L k)) ∧
    o6' = (if k = 0 then upo o6 c (some (ra r)) else o6) ∧ o7' = (if k < L.length then o7 else upo o7 c (some (ra r))) := by
  obtain ⟨⟨y5, y8, yr⟩, y1, y2, y3⟩ := hy
  have r3 := yr 3 (by decide)
  have r4 := yr 4 (by decide)
  have r5 := yr 5 (by decide)
  have r6 := yr 6 (by decide)
  have a4 := y2 0 (by decide)
  have a5 := y2 1 (by decide)
  have a6 := y3 0 (by decide)
  have a7 := y3 1 (by decide)
  simp only [Nat.add_assoc, Nat.reduceAdd, Nat.add_zero] at r3 r4 r5 r6 a4 a5 a6 a7
  obtain ⟨-, k9, -, ⟨-, -, -, k12⟩, -, k13, -⟩ := hB.2.2.1 r hr hm
  have hrow : ∀ q, q ∈ L → kK S (ra q) = 9 ∧ kF S (ra q) 12 = Int32.ofNat q := fun q hq => by
    obtain ⟨-, p9, -, ⟨-, -, -, p12⟩, -⟩ := hB.2.2.1 q (hLm q hq).1 (hLm q hq).2
    exact ⟨p9, p12⟩
  have z5 : ∀ p4 p5 p6 p7, kK (sT S la p4 p5 p6 p7) la = 5 := fun _ _ _ _ => y5
  have zr3 : ∀ p4 p5 p6 p7, kR (sT S la p4 p5 p6 p7) la 3 = some (la + 4) := fun _ _ _ _ => r3
  have zr4 : ∀ p4 p5 p6 p7, kR (sT S la p4 p5 p6 p7) la 4 = some (la + 5) := fun _ _ _ _ => r4
  have zr5 : ∀ p4 p5 p6 p7, kR (sT S la p4 p5 p6 p7) la 5 = some (la + 6) := fun _ _ _ _ => r5
  have zr6 : ∀ p4 p5 p6 p7, kR (sT S la p4 p5 p6 p7) la 6 = some (la + 7) := fun _ _ _ _ => r6
  have z4 : ∀ p4 p5 p6 p7, kK (sT S la p4 p5 p6 p7) (la + 4) = 30 := fun _ _ _ _ => a4.1
  have z4' : ∀ p4 p5 p6 p7, kL (sT S la p4 p5 p6 p7) (la + 4) = 1000 := fun _ _ _ _ => a4.2
  have z55 : ∀ p4 p5 p6 p7, kK (sT S la p4 p5 p6 p7) (la + 5) = 30 := fun _ _ _ _ => a5.1
  have z5' : ∀ p4 p5 p6 p7, kL (sT S la p4 p5 p6 p7) (la + 5) = 1000 := fun _ _ _ _ => a5.2
  have z6 : ∀ p4 p5 p6 p7, kK (sT S la p4 p5 p6 p7) (la + 6) = 30 := fun _ _ _ _ => a6.1
  have z6' : ∀ p4 p5 p6 p7, kL (sT S la p4 p5 p6 p7) (la + 6) = 385 := fun _ _ _ _ => a6.2
  have z7 : ∀ p4 p5 p6 p7, kK (sT S la p4 p5 p6 p7) (la + 7) = 30 := fun _ _ _ _ => a7.1
  have z7' : ∀ p4 p5 p6 p7, kL (sT S la p4 p5 p6 p7) (la + 7) = 385 := fun _ _ _ _ => a7.2
  have z9 : ∀ p4 p5 p6 p7, kK (sT S la p4 p5 p6 p7) (ra r) = 9 := fun _ _ _ _ => k9
  have z12 : ∀ p4 p5 p6 p7, kF (sT S la p4 p5 p6 p7) (ra r) 12 = Int32.ofNat r := fun _ _ _ _ => k12
  have z13 : ∀ p4 p5 p6 p7, kF (sT S la p4 p5 p6 p7) (ra r) 13 = Int32.ofNat c := fun _ _ _ _ => k13.trans hch
  have zq9 : ∀ q, q ∈ L → ∀ p4 p5 p6 p7, kK (sT S la p4 p5 p6 p7) (ra q) = 9 := fun q hq _ _ _ _ => (hrow q hq).1
  have zq12 : ∀ q, q ∈ L → ∀ p4 p5 p6 p7, kF (sT S la p4 p5 p6 p7) (ra q) 12 = Int32.ofNat q := fun q hq _ _ _ _ => (hrow q hq).2
  have ckr : ∀ p4 p5 p6 p7 {K : Option cSt}, ckq (sT S la p4 p5 p6 p7) (some (ra r)) 9 K = K := fun _ _ _ _ {K} => ckk_y k9
  have hr31 : r < 2147483648 := by omega
  have hc31 : c < 2147483648 := by omega
  have e86 : ∀ p4 p5 p6 p7, fk_4_link_86 (sT S la p4 p5 p6 p7) la (ra r) (nxL ra L k) = some (sT S la (if h : k < L.length then upo p4 L[k] (some (ra r)) else p4) p5 p6 (if k < L.length then p7 else upo p7 c (some (ra r)))) := fun p4 p5 p6 p7 => by
    unfold fk_4_link_86 fk_4_link_113 nxL
    by_cases hlt : k < L.length
    · have hq := List.getElem_mem hlt
      have hq4 := (hLm _ hq).1
      rw [List.getElem?_eq_getElem hlt, dif_pos hlt, if_pos hlt]
      show ckk (sT S la p4 p5 p6 p7) la 5 _ = _
      rw [ckk_y (z5 _ _ _ _), zr3, bd_s, ckk_y (zq9 _ hq _ _ _ _), ckk_y (z4 _ _ _ _), z4', zq12 _ hq, ck_n hq4 (by omega), ckr, lt_d, jI_cl (by omega), (sT_w S _ _ _ _ _ _).1]
    · rw [List.getElem?_eq_none (by omega), dif_neg hlt, if_neg hlt]
      show ckk (sT S la p4 p5 p6 p7) la 5 _ = _
      rw [ckk_y (z5 _ _ _ _), zr6, bd_s, ckk_y (z9 _ _ _ _), ckk_y (z7 _ _ _ _), z7', z13, ck_n hc hc31, ckr, lt_d, jI_cl hc31, (sT_w S _ _ _ _ _ _).2.2.2]
  unfold fk_4_link_39
  have hpvq : ∀ a, pvL ra L k = some a → kK S a = 9 := fun a ha => by
    unfold pvL at ha
    by_cases c0 : k = 0
    · rw [if_pos c0] at ha; cases ha
    · rw [if_neg c0, List.getElem?_eq_getElem (by omega)] at ha
      cases ha
      exact (hrow _ (List.getElem_mem (by omega))).1
  have hnxq : ∀ a, nxL ra L k = some a → kK S a = 9 := fun a ha => by
    unfold nxL at ha
    by_cases c0 : k < L.length
    · rw [List.getElem?_eq_getElem c0] at ha
      cases ha
      exact (hrow _ (List.getElem_mem c0)).1
    · rw [List.getElem?_eq_none (by omega)] at ha; cases ha
  rw [ckk_y (z5 _ _ _ _), zr3, bd_s, ckk_y (z9 _ _ _ _), ckk_y (z4 _ _ _ _), z4', z12, ck_n hr hr31, ckqO (T := sT S la o4 o5 o6 o7) hpvq, lt_d, jI_cl hr31, (sT_w S _ _ _ _ _ _).1]
  rw [ckk_y (z5 _ _ _ _), zr4, bd_s, ckk_y (z9 _ _ _ _), ckk_y (z55 _ _ _ _), z5', z12, ck_n hr hr31, ckqO (T := sT S la _ o5 o6 o7) hnxq, lt_d, jI_cl hr31, (sT_w S _ _ _ _ _ _).2.1]
  by_cases c0 : k = 0
  · have hp : pvL ra L k = none := by unfold pvL; rw [if_pos c0]
    rw [hp]
    show ∃ o4' o5' o6' o7', ckk (sT S la _ _ o6 o7) la 5 _ = _ ∧ _
    rw [ckk_y (z5 _ _ _ _), zr5, bd_s, ckk_y (z9 _ _ _ _), ckk_y (z6 _ _ _ _), z6', z13, ck_n hc hc31, ckr, lt_d, jI_cl hc31, (sT_w S _ _ _ _ _ _).2.2.1, e86]
    exact ⟨_, _, _, _, rfl, by rfl, by rw [dif_neg (fun q => by omega)], by rw [if_pos c0], rfl⟩
  · have hlt : k - 1 < L.length := by omega
    have hq := List.getElem_mem hlt
    have hq4 := (hLm _ hq).1
    have hp : pvL ra L k = some (ra L[k - 1]) := by unfold pvL; rw [if_neg c0, List.getElem?_eq_getElem hlt]; rfl
    rw [hp]
    show ∃ o4' o5' o6' o7', ckk (sT S la _ _ o6 o7) la 5 _ = _ ∧ _
    rw [ckk_y (z5 _ _ _ _), zr4, bd_s, ckk_y (zq9 _ hq _ _ _ _), ckk_y (z55 _ _ _ _), z5', zq12 _ hq, ck_n hq4 (by omega), ckr, lt_d, jI_cl (by omega), (sT_w S _ _ _ _ _ _).2.1, e86]
    exact ⟨_, _, _, _, rfl, by rfl, by rw [dif_pos ⟨hlt, by omega⟩], by rw [if_neg c0], rfl⟩
/-- a row is linked into its chain -/
theorem k_link (ht : tOk M) (hB : cBk M ra sl ch made mkO S bk) (hy : cLay S la bk) {c r : Nat} (hc : c < 385) (hr : r < 1000) (hm : made r) (hrl : r ∉ l) (ho : lOk made l) (hch : ch r = Int32.ofNat c) (hD : ∀ c, c < 385 → cDl ra S la c (chL M ch l c)) : ∃ S', fk_4_link S la (ra r) = some S' ∧ cEq (inC la) S S' ∧ (∀ c, c < 385 → cDl ra S' la c (chL M ch (l ++ [r]) c)) ∧ ∀ q, (kO S' (la + 4) q = kO S (la + 4) q ∨ kO S' (la + 4) q = none ∨ ∃ t, t ∈ l ++ [r] ∧ kO S' (la + 4) q = some (ra t)) ∧ (kO S' (la + 5) q = kO S (la + 5) q ∨ kO S' (la + 5) q = none ∨ ∃ t, t ∈ l ++ [r] ∧ kO S' (la + 5) q = some (ra t)) := by
  obtain ⟨⟨y5, y8, yr⟩, y1, y2, y3⟩ := id hy
  have r3 := yr 3 (by decide)
  have r6 := yr 6 (by decide)
  have a4 := y2 0 (by decide)
  have a7 := y3 1 (by decide)
  simp only [Nat.add_assoc, Nat.reduceAdd, Nat.add_zero] at r3 r6 a4 a7
  obtain ⟨-, hrw⟩ := hB.2.2.1 r hr hm
  have k9 := hrw.1
  have k13 := hrw.2.2.2.2.1
  have hrL : ∀ c, r ∉ chL M ch l c := fun c q => hrl (chL_mem.mp q).1
  have hLm : ∀ q ∈ chL M ch l c, q < 1000 ∧ made q := fun q hq => ho.2.2 q (chL_mem.mp hq).1
  have hD1 := hD c hc
  unfold fk_4_link
  have hnd := chL_nd (M := M) (ch := ch) ho.1 c
  have hsd : sdl (rK M) (chL M ch l c) := sdl_srt _ _
  have walk : ∀ (k fu : Nat), k ≤ (chL M ch l c).length → k < fu → (∀ j (h : j < (chL M ch l c).length), k ≤ j → rK M r < rK M (chL M ch l c)[j]) → ∃ k', k' ≤ (chL M ch l c).length ∧ fk_4_link_12 fu S la (ra r) (nxL ra (chL M ch l c) k) (pvL ra (chL M ch l c) k) = fk_4_link_39 S la (ra r) (nxL ra (chL M ch l c) k') (pvL ra (chL M ch l c) k') ∧ (∀ j (h : j < (chL M ch l c).length), k' ≤ j → rK M r < rK M (chL M ch l c)[j]) ∧ (∀ (h : k' - 1 < (chL M ch l c).length), 0 < k' → rK M ((chL M ch l c)[k' - 1]) ≤ rK M r) := by
    intro k
    induction k with
    | zero =>
      intro fu _ hf h4
      obtain ⟨fu, rfl⟩ : ∃ q, fu = q + 1 := ⟨fu - 1, by omega⟩
      exact ⟨0, Nat.zero_le _, by rw [fk_4_link_12]; rfl, h4, fun _ h => absurd h (by omega)⟩
    | succ k ih =>
      intro fu hk hf h4
      obtain ⟨fu, rfl⟩ : ∃ q, fu = q + 1 := ⟨fu - 1, by omega⟩
      have hlt : k < (chL M ch l c).length := by omega
      have hq := List.getElem_mem hlt
      obtain ⟨q4, qm⟩ := hLm _ hq
      obtain ⟨-, hqw⟩ := hB.2.2.1 _ q4 qm
      have hp : pvL ra (chL M ch l c) (k + 1) = some (ra (chL M ch l c)[k]) := by unfold pvL; rw [if_neg (by omega), Nat.add_sub_cancel, List.getElem?_eq_getElem hlt]; rfl
      have hx : nxL ra (chL M ch l c) k = some (ra (chL M ch l c)[k]) := by unfold nxL; rw [List.getElem?_eq_getElem hlt]; rfl
      rw [hp, fk_4_link_12]
      show ∃ k', _ ∧ ckk S (ra r) 9 _ = _ ∧ _
      rw [ckk_y k9, k_isBefore ht hr q4 hrw hqw, bd_s]
      by_cases hb : rK M r < rK M (chL M ch l c)[k]
      · obtain ⟨k', g1, g2, g3, g4⟩ := ih fu (by omega) (by omega) (fun j hj hkj => by
          by_cases ej : j = k
          · subst ej; exact hb
          · exact h4 j hj (by omega))
        refine ⟨k', g1, ?_, g3, g4⟩
        rw [b2_t hb, if_neg n10, ckk_y y5, r3, bd_s, ckk_y hqw.1, ckk_y a4.1, a4.2, hqw.2.2.1.2.2.2, ck_n q4 (by omega), lt_d, jI_cl (by omega)]
        have := (hD1.2.2 k hlt).1
        rw [this, ← hx]
        exact g2
      · refine ⟨k + 1, hk, ?_, h4, fun h _ => Nat.not_lt.mp hb⟩
        rw [b2_f hb, if_pos rfl, hp]
  obtain ⟨k, w1, w2, w3, w4⟩ := walk (chL M ch l c).length mFU (Nat.le_refl _) (Nat.lt_of_le_of_lt (Nat.le_trans (chL_len c) ho.2.1) (by decide)) (fun j hj hkj => absurd hj (by omega))
  have hnx0 : nxL ra (chL M ch l c) (chL M ch l c).length = none := by unfold nxL; rw [List.getElem?_eq_none (Nat.le_refl _)]; rfl
  obtain ⟨o4', o5', o6', o7', l1, l2, l3, l4, l5⟩ := k_link39 hB hy hc w1 hr hm hLm hch (kO S (la + 4)) (kO S (la + 5)) (kO S (la + 6)) (kO S (la + 7))
  rw [sT_id] at l1
  have hin : ∀ (k : Nat) (h : k < (chL M ch l c).length), (chL M ch l c)[k] ∈ l ++ [r] := fun k h => List.mem_append.mpr (Or.inl (chL_mem.mp (List.getElem_mem h)).1)
  have pv : pvL ra (chL M ch l c) k = none ∨ ∃ t, t ∈ l ++ [r] ∧ pvL ra (chL M ch l c) k = some (ra t) := by
    unfold pvL
    by_cases c0 : k = 0
    · rw [if_pos c0]; exact Or.inl rfl
    · rw [if_neg c0, List.getElem?_eq_getElem (by omega)]; exact Or.inr ⟨_, hin _ (by omega), rfl⟩
  have nx : nxL ra (chL M ch l c) k = none ∨ ∃ t, t ∈ l ++ [r] ∧ nxL ra (chL M ch l c) k = some (ra t) := by
    unfold nxL
    by_cases c0 : k < (chL M ch l c).length
    · rw [List.getElem?_eq_getElem c0]; exact Or.inr ⟨_, hin _ c0, rfl⟩
    · rw [List.getElem?_eq_none (by omega)]; exact Or.inl rfl
  have up : ∀ (o p : Nat → Option Nat) (i : Nat) (x : Option Nat) (q : Nat), (x = none ∨ ∃ t, t ∈ l ++ [r] ∧ x = some (ra t)) → (o q = p q ∨ o q = none ∨ ∃ t, t ∈ l ++ [r] ∧ o q = some (ra t)) → (upo o i x q = p q ∨ upo o i x q = none ∨ ∃ t, t ∈ l ++ [r] ∧ upo o i x q = some (ra t)) := fun o p i x q hx ho => by
    unfold upo
    by_cases e : q = i
    · rw [if_pos e]; exact Or.inr hx
    · rw [if_neg e]; exact ho
  have hrr : (some (ra r) : Option Nat) = none ∨ ∃ t, t ∈ l ++ [r] ∧ some (ra r) = some (ra t) := Or.inr ⟨r, List.mem_append.mpr (Or.inr (List.mem_singleton.mpr rfl)), rfl⟩
  refine ⟨sT S la o4' o5' o6' o7', ?_, cEq_sT _ _ _ _ _ _, ?_, fun q => ⟨?_, ?_⟩⟩
  · rw [ckk_y y5, r6, bd_s, ckk_y k9, ckk_y a7.1, a7.2, k13, hch, ck_n hc (by omega), lt_d, jI_cl (by omega), hD1.2.1, ← hnx0, w2]
    exact l1
  · have hlen : ((chL M ch l c).take k ++ r :: (chL M ch l c).drop k).length = (chL M ch l c).length + 1 := by simp; omega
    have e4 : ∀ q, q ≠ r → (∀ h : k < (chL M ch l c).length, q ≠ (chL M ch l c)[k]) → o4' q = kO S (la + 4) q := fun q h1 h2 => by
      rw [l2]
      by_cases hlt : k < (chL M ch l c).length
      · rw [dif_pos hlt, upo_o _ _ (h2 hlt), upo_o _ _ h1]
      · rw [dif_neg hlt, upo_o _ _ h1]
    have e5 : ∀ q, q ≠ r → (∀ h : k - 1 < (chL M ch l c).length, 0 < k → q ≠ (chL M ch l c)[k - 1]) → o5' q = kO S (la + 5) q := fun q h1 h2 => by
      rw [l3]
      by_cases hlt : k - 1 < (chL M ch l c).length ∧ 0 < k
      · rw [dif_pos hlt, upo_o _ _ (h2 hlt.1 hlt.2), upo_o _ _ h1]
      · rw [dif_neg hlt, upo_o _ _ h1]
    intro c' hc'
    by_cases ec : c' = c
    · subst ec
      have hins : chL M ch (l ++ [r]) c' = (chL M ch l c').take k ++ r :: (chL M ch l c').drop k := by
        unfold chL
        rw [List.filter_append]
        have : List.filter (fun r => decide (ch r = Int32.ofNat c')) [r] = [r] := by simp [hch]
        rw [this, srt_app]
        exact ins_at k hsd w1 w3 w4
      have hrL' := hrL c'
      rw [hins]
      refine ⟨?_, ?_, ?_⟩
      · rw [sT_6, l4]
        by_cases c0 : k = 0
        · rw [if_pos c0, upo_s]
          unfold nxL
          rw [c0]; rfl
        · rw [if_neg c0, hD1.1]
          unfold nxL
          obtain ⟨d1, -⟩ := cat_get (L := chL M ch l c') (r := r) (j := 0) w1 (by omega)
          obtain ⟨q1, q2⟩ := d1 (by omega)
          rw [List.getElem?_eq_getElem q1, List.getElem?_eq_getElem (by omega), q2]
      · rw [sT_7, l5, hlen]
        unfold pvL
        rw [if_neg (show ¬ (chL M ch l c').length + 1 = 0 by omega), Nat.add_sub_cancel]
        obtain ⟨-, d2, d3⟩ := cat_get (L := chL M ch l c') (r := r) (j := (chL M ch l c').length) w1 (by omega)
        rw [List.getElem?_eq_getElem (by omega)]
        by_cases c0 : k < (chL M ch l c').length
        · obtain ⟨q1, q2⟩ := d3 c0
          rw [if_pos c0, hD1.2.1, q2]
          unfold pvL
          rw [if_neg (by omega), List.getElem?_eq_getElem q1]
        · rw [if_neg c0, upo_s, d2 (by omega)]; rfl
      · rw [sT_4, sT_5]
        refine dl_ins w1 hnd hrL' (o4 := kO S (la + 4)) (o5 := kO S (la + 5)) hD1.2.2 ?_ ?_ ?_ ?_ ?_ ?_
        · rw [l2]
          by_cases hlt : k < (chL M ch l c').length
          · rw [dif_pos hlt, upo_o _ _ (fun e : r = (chL M ch l c')[k] => hrL' (e ▸ List.getElem_mem hlt)), upo_s]
          · rw [dif_neg hlt, upo_s]
        · intro hlt; rw [l2, dif_pos hlt, upo_s]
        · intro j hj hjk
          exact e4 _ (fun e => hrL' (e ▸ List.getElem_mem hj)) (fun h e => hjk ((List.getElem_inj hnd).mp e))
        · rw [l3]
          by_cases hlt : k - 1 < (chL M ch l c').length ∧ 0 < k
          · rw [dif_pos hlt, upo_o _ _ (fun e : r = (chL M ch l c')[k - 1]'hlt.1 => hrL' (e ▸ List.getElem_mem hlt.1)), upo_s]
          · rw [dif_neg hlt, upo_s]
        · intro hlt h0; rw [l3, dif_pos ⟨hlt, h0⟩, upo_s]
        · intro j hj hjk
          exact e5 _ (fun e => hrL' (e ▸ List.getElem_mem hj)) (fun h h0 e => by have := (List.getElem_inj hnd).mp e; omega)
    · have hins : chL M ch (l ++ [r]) c' = chL M ch l c' := by
        unfold chL
        rw [List.filter_append]
        have hne : ¬ ch r = Int32.ofNat c' := fun q => ec ((jI_inj (by omega) (by omega)).mp (q.symm.trans hch))
        have : List.filter (fun r => decide (ch r = Int32.ofNat c')) [r] = [] := by simp [hne]
        rw [this, List.append_nil]
      have hD2 := hD c' hc'
      have hdis : ∀ q, q ∈ chL M ch l c' → q ∉ chL M ch l c := fun q h1 h2 => ec ((jI_inj (by omega) (by omega)).mp ((chL_mem.mp h1).2.symm.trans (chL_mem.mp h2).2))
      rw [hins]
      refine ⟨?_, ?_, fun j hj => ?_⟩
      · rw [sT_6, l4, ← hD2.1]
        by_cases c0 : k = 0
        · rw [if_pos c0, upo_o _ _ ec]
        · rw [if_neg c0]
      · rw [sT_7, l5, ← hD2.2.1]
        by_cases c0 : k < (chL M ch l c).length
        · rw [if_pos c0]
        · rw [if_neg c0, upo_o _ _ ec]
      · have hq := List.getElem_mem hj
        rw [sT_4, sT_5, e4 _ (fun e => hrL c' (e ▸ hq)) (fun h e => hdis _ hq (e ▸ List.getElem_mem h)), e5 _ (fun e => hrL c' (e ▸ hq)) (fun h _ e => hdis _ hq (e ▸ List.getElem_mem h))]
        exact hD2.2.2 j hj
  · rw [sT_4, l2]
    by_cases hlt : k < (chL M ch l c).length
    · rw [dif_pos hlt]; exact up _ _ _ _ _ hrr (up _ _ _ _ _ pv (Or.inl rfl))
    · rw [dif_neg hlt]; exact up _ _ _ _ _ pv (Or.inl rfl)
  · rw [sT_5, l3]
    by_cases hlt : k - 1 < (chL M ch l c).length ∧ 0 < k
    · rw [dif_pos hlt]; exact up _ _ _ _ _ hrr (up _ _ _ _ _ nx (Or.inl rfl))
    · rw [dif_neg hlt]; exact up _ _ _ _ _ nx (Or.inl rfl)
end V
