-- part 25: what a view answers without writing
section V
variable {M : mSt} {ra : Nat → Nat} {sl ch : Nat → Int32} {made : Nat → Prop} {mkO : Nat → Option Nat} {S : cSt} {bk la va ua up : Nat} {l : List Nat}
theorem k_rowNamed (hB : cBk M ra sl ch made mkO S bk) (x : Int32) : fk_0_rowNamed S bk x = some ((rOf x).bind (kO S (bk + 1))) := by
  obtain ⟨⟨b1, b2', -⟩, ⟨b5, b6, -⟩, -⟩ := hB
  unfold fk_0_rowNamed fk_0_rowNamed_12 fk_0_rowNamed_32 rOf
  simp only [lt_d]
  by_cases h : x < 0
  · rw [if_pos (show x < (1 : Int32) from Int32.lt_trans h (by decide)), if_pos h]; rfl
  · rw [if_neg h]
    have hl := jI_clt x
    rw [jI_of h]
    generalize x.toNatClampNeg = a at hl ⊢
    rw [jI_cl hl, show (1000 : Int32) = Int32.ofNat 1000 from rfl, jI_rem hl (by omega), jI_div hl (by omega)]
    by_cases h1 : a < 1
    · have e : a = 0 := by omega
      subst e
      rfl
    · refine (if_neg (fun q => h1 ((jI_lt (b := 1) hl (by omega)).mp q))).trans ?_
      by_cases h2 : a ≤ 3250
      · refine (if_pos ((jI_le (b := 3250) hl (by omega)).mpr h2)).trans ?_
        rw [if_neg (show ¬ 3 < a / 1000 by omega)]
        by_cases h3 : a % 1000 < 1
        · refine (if_pos ((jI_lt (b := 1) (show a % 1000 < 2147483648 by omega) (by omega)).mpr h3)).trans ?_
          rw [if_neg (by omega)]; rfl
        · refine (if_neg (fun q => h3 ((jI_lt (b := 1) (show a % 1000 < 2147483648 by omega) (by omega)).mp q))).trans ?_
          by_cases h4 : a % 1000 ≤ 250
          · refine (if_pos ((jI_le (b := 250) (show a % 1000 < 2147483648 by omega) (by omega)).mpr h4)).trans ?_
            rw [if_pos ⟨by omega, h4⟩, show (250 : Int32) = Int32.ofNat 250 from rfl, show (1 : Int32) = Int32.ofNat 1 from rfl, jI_mul, jI_add, jI_sub (by omega), ckk_y b1, b2', bd_s, ckk_y b5, b6, ck_n (by omega) (by omega), jI_cl (by omega)]
            show some (kO S (bk + 1) (a / 1000 * 250 + a % 1000 - 1)) = some (kO S (bk + 1) (250 * (a / 1000) + a % 1000 - 1))
            rw [Nat.mul_comm]
          · refine (if_neg (fun q => h4 ((jI_le (b := 250) (show a % 1000 < 2147483648 by omega) (by omega)).mp q))).trans ?_
            rw [if_neg (fun q => h4 q.2)]; rfl
      · refine (if_neg (fun q => h2 ((jI_le (b := 3250) hl (by omega)).mp q))).trans ?_
        by_cases h5 : 3 < a / 1000
        · rw [if_pos h5]; rfl
        · rw [if_neg h5, if_neg (by omega)]; rfl
theorem k_makeOf (hB : cBk M ra sl ch made mkO S bk) {j : Nat} (hj : j < 48) : fk_0_makeOf S bk (Int32.ofNat j) = some ((mkO j).map ra) := by
  obtain ⟨⟨b1, -, b3, -⟩, ⟨-, -, b7, b8, -⟩, -, -, b9⟩ := hB
  unfold fk_0_makeOf fk_0_makeOf_20
  refine (if_neg (jI_nn (by omega))).trans ?_
  refine (if_neg (fun q => absurd ((jI_le (a := 48) (b := j) (by omega) (by omega)).mp q) (by omega))).trans ?_
  rw [ckk_y b1, b3, bd_s, ckk_y b7, b8, ck_n hj (by omega), lt_d, jI_cl (by omega), (b9 j hj).1]
theorem k_makeOf_n (x : Int32) (hx : x < 0) : fk_0_makeOf S bk x = some none := by unfold fk_0_makeOf; exact if_pos hx
theorem k_nameOf (hB : cBk M ra sl ch made mkO S bk) {j : Nat} (hj : j < 48) : fk_0_nameOf S bk (Int32.ofNat j) = some (match mkO j with | none => -1 | some r => Int32.ofNat (rNm r)) := by
  unfold fk_0_nameOf
  rw [ckk_y hB.1.1, k_makeOf hB hj, bd_s]
  cases h : mkO j with
  | none => rfl
  | some r =>
    obtain ⟨q1, q2, -⟩ := (hB.2.2.2.2 j hj).2 r h
    obtain ⟨-, k9, -, ⟨-, -, k11, -⟩, -⟩ := hB.2.2.1 r q1 q2
    show ckk S (ra r) 9 _ = _
    rw [ckk_y k9, k11]; rfl
theorem k_kindOf (hB : cBk M ra sl ch made mkO S bk) {j : Nat} (hj : j < 48) : fk_0_kindOf S bk (Int32.ofNat j) = some (match mkO j with | none => -1 | some r => M.2 12 r) := by
  unfold fk_0_kindOf
  rw [ckk_y hB.1.1, k_makeOf hB hj, bd_s]
  cases h : mkO j with
  | none => rfl
  | some r =>
    obtain ⟨q1, q2, -⟩ := (hB.2.2.2.2 j hj).2 r h
    obtain ⟨-, k9, ⟨-, -, -, k4, -⟩, -⟩ := hB.2.2.1 r q1 q2
    show ckk S (ra r) 9 _ = _
    rw [ckk_y k9, k4]; rfl
theorem k_isApplied (hB : cBk M ra sl ch made mkO S bk) (hL : cLed M ra ch S la bk l) (hV : cVw M S va bk la ua up l) (ho : lOk made l) {r : Nat} (hr : r < 1000) (hm : made r) : fk_10_isApplied S va (ra r) = some (b2 (r ∈ l.take up)) := by
  obtain ⟨⟨v1, v2, v3, v4, v5⟩, v6, v7, v8, v9⟩ := hV
  obtain ⟨-, ⟨k9, -, ⟨-, -, -, k12⟩, -⟩⟩ := hB.2.2.1 r hr hm
  obtain ⟨⟨l1, l2, l3⟩, l4, l5, l6⟩ := hL.1
  have p0 := l4 1 (by decide)
  unfold fk_10_isApplied fk_10_isApplied_29 fk_10_isApplied_30
  simp only [ckk_y v1, v4, bd_s, ckk_y l1, l3 1 (by decide), ckk_y k9, k12, ckk_y p0.1, p0.2, ck_n hr (show r < 2147483648 by omega), lt_d, jI_cl (show r < 2147483648 by omega), v5, ckz_0, ckz_1]
  show (if kI S (la + 2) r ≤ 0 then _ else _) = _
  by_cases hmem : r ∈ l
  · obtain ⟨i, hi, rfl⟩ := List.mem_iff_getElem.mp hmem
    have hle := ho.2.1
    rw [(hL.2.2.1 i hi).2, if_neg (jI_p (show i + 1 < 2147483648 by omega) (Nat.succ_pos i))]
    by_cases hu : i < up
    · rw [if_neg (fun q => absurd ((jI_lt (show up < 2147483648 by omega) (show i + 1 < 2147483648 by omega)).mp q) (by omega)), b2_t ((mem_take ho.1 hi).mpr hu)]
    · rw [if_pos ((jI_lt (show up < 2147483648 by omega) (show i + 1 < 2147483648 by omega)).mpr (by omega)), b2_f (fun q => hu ((mem_take ho.1 hi).mp q))]
  · rw [hL.2.2.2.1 r hr hmem, if_pos (by decide), b2_f (fun q => hmem (List.mem_of_mem_take q))]
/-- a slot's object is made, is there, as a view sees it -/
def vMd (mkO : Nat → Option Nat) (l : List Nat) (up j : Nat) : Bool := match mkO j with | none => false | some r => decide (r ∈ l.take up)
def vTh (M : mSt) (ch : Nat → Int32) (mkO : Nat → Option Nat) (l : List Nat) (up j : Nat) : Bool := vMd mkO l up j && (lgR M ch l up (8 * j + 6)).isNone
theorem k_isMade (hB : cBk M ra sl ch made mkO S bk) (hL : cLed M ra ch S la bk l) (hV : cVw M S va bk la ua up l) (ho : lOk made l) {j : Nat} (hj : j < 48) : fk_10_isMade S va (Int32.ofNat j) = some (b2 (vMd mkO l up j = true)) := by
  unfold fk_10_isMade fk_10_isMade_25 fk_10_isMade_26 vMd
  rw [ckk_y hV.1.1, hV.1.2.1, bd_s, ckk_y hB.1.1, k_makeOf hB hj, bd_s]
  cases h : mkO j with
  | none => rfl
  | some r =>
    obtain ⟨q1, q2, -⟩ := (hB.2.2.2.2 j hj).2 r h
    show ckk S va 11 _ = _
    rw [ckk_y hV.1.1, k_isApplied hB hL hV ho q1 q2, bd_s]
    by_cases hm : r ∈ l.take up
    · rw [b2_t hm, if_neg (by decide), b2_t (by simpa using hm)]; rfl
    · rw [b2_f hm, if_pos rfl, b2_f (by simpa using hm)]; rfl
theorem k_isMade_n (hB : cBk M ra sl ch made mkO S bk) (hV : cVw M S va bk la ua up l) {x : Int32} (hx : x < 0) : fk_10_isMade S va x = some 0 := by
  unfold fk_10_isMade
  rw [ckk_y hV.1.1, hV.1.2.1, bd_s, ckk_y hB.1.1, k_makeOf_n x hx, bd_s]; rfl
theorem k_isThere (hB : cBk M ra sl ch made mkO S bk) (hL : cLed M ra ch S la bk l) (hV : cVw M S va bk la ua up l) (ho : lOk made l) {j : Nat} (hj : j < 48) : fk_10_isThere S va (Int32.ofNat j) = some (b2 (vTh M ch mkO l up j = true)) := by
  unfold fk_10_isThere fk_10_isThere_26 fk_10_isThere_27 vTh
  rw [ckk_y hV.1.1, k_isMade hB hL hV ho hj, bd_s]
  cases hm : vMd mkO l up j
  · rfl
  · rw [if_neg (by rw [b2_t rfl]; decide), ckk_y hV.1.1, show (8 : Int32) = Int32.ofNat 8 from rfl, show (6 : Int32) = Int32.ofNat 6 from rfl, jI_mul, jI_add, show j * 8 + 6 = 8 * j + 6 by omega, k_lastGood (by omega) hB hL hV ho, bd_s]
    cases lgR M ch l up (8 * j + 6) <;> rfl
theorem k_isThere_n (hB : cBk M ra sl ch made mkO S bk) (hV : cVw M S va bk la ua up l) {x : Int32} (hx : x < 0) : fk_10_isThere S va x = some 0 := by
  unfold fk_10_isThere
  rw [ckk_y hV.1.1, k_isMade_n hB hV hx, bd_s]; rfl
theorem k_isThereOf (hB : cBk M ra sl ch made mkO S bk) (hL : cLed M ra ch S la bk l) (hV : cVw M S va bk la ua up l) (ho : lOk made l) {j : Nat} (hj : j < 48) (x : Int32) : fk_10_isThereOf S va (Int32.ofNat j) x = some (b2 (vTh M ch mkO l up j = true ∧ (match mkO j with | none => (-1 : Int32) | some r => M.2 12 r) = x)) := by
  unfold fk_10_isThereOf fk_10_isThereOf_24 fk_10_isThereOf_25
  rw [ckk_y hV.1.1, k_isThere hB hL hV ho hj, bd_s]
  cases hm : vTh M ch mkO l up j
  · rw [if_pos (b2_f (by simp)), b2_f (by simp)]; rfl
  · rw [if_neg (by rw [b2_t rfl]; decide), ckk_y hV.1.1, hV.1.2.1, bd_s, ckk_y hB.1.1, k_kindOf hB hj, bd_s]
    by_cases hx : (match mkO j with | none => (-1 : Int32) | some r => M.2 12 r) = x
    · rw [if_pos hx, b2_t ⟨rfl, hx⟩]; rfl
    · rw [if_neg hx, b2_f (fun q => hx q.2)]; rfl
theorem k_sumOf {c : Nat} (hc : c < 385) (hB : cBk M ra sl ch made mkO S bk) (hL : cLed M ra ch S la bk l) (hV : cVw M S va bk la ua up l) (ho : lOk made l) : fk_10_sumOf S va (Int32.ofNat c) = some ((chL M ch l c).reverse.foldl (fun s r => if gv M l up r then s + M.2 12 r else s) 0) := by
  have v1 := hV.1.1
  have v4 := hV.1.2.2.2.1
  unfold fk_10_sumOf
  rw [ckk_y v1, v4, bd_s, k_at hc hL]
  have hlen := chL_len (M := M) (ch := ch) (l := l) c
  have hle := ho.2.1
  have key := walkD (σ := Int32) (β := Int32) (ra := ra) (L := chL M ch l c) (F := fun n s o => fk_10_sumOf_12 S n va s o) (step := fun s r => .inl (if gv M l up r then s + M.2 12 r else s)) (fin := fun s => some s) (fun _ => True)
    (fun n st _ => by rw [fk_10_sumOf_12]; rfl)
    (fun n st i hi _ => by
      obtain ⟨q1, q2⟩ := ho.2.2 _ (chL_mem.mp (List.getElem_mem hi)).1
      obtain ⟨-, k9, ⟨-, -, -, k4, -⟩, -⟩ := hB.2.2.1 _ q1 q2
      show fk_10_sumOf_12 S (n + 1) va st (some (ra (chL M ch l c)[i])) = _
      rw [fk_10_sumOf_12]
      show ckk S va 11 _ = _
      have go : ∀ x : Int32, fk_10_sumOf_31 (fk_10_sumOf_12 S n) S va x (some (ra (chL M ch l c)[i])) = fk_10_sumOf_12 S n va x (pvL ra (chL M ch l c) i) := fun x => by
        unfold fk_10_sumOf_31
        rw [ckk_y v1, v4, bd_s]
        exact k_dn hc hB hL ho hi (fun o => fk_10_sumOf_12 S n va x o)
      rw [ckk_y v1, k_isGood hB hL hV ho q1 q2, bd_s]
      cases hg : gv M l up (chL M ch l c)[i]
      · rw [if_pos (b2_f (by simp)), go]; rfl
      · rw [if_neg (fun q => absurd (((b2_0 _).mp q)) (by simp)), ckk_y k9, lt_d, k4, go]; rfl)
    (fun _ _ _ _ _ _ => trivial) (chL M ch l c).length mFU 0 (Nat.le_refl _) (Nat.lt_of_le_of_lt (Nat.le_trans hlen hle) (by decide)) trivial
  have key' : fk_10_sumOf_12 S mFU va 0 (pvL ra (chL M ch l c) (chL M ch l c).length) = _ := key
  rw [key', List.take_length, runL_fold]
def bdR (M : mSt) (ch : Nat → Int32) (l : List Nat) (up c : Nat) (x : Int32) : Option Nat := (chL M ch l c).reverse.find? (fun r => decide (M.2 12 r = x) && gv M l up r)
theorem k_bindOf {c : Nat} (hc : c < 385) (hB : cBk M ra sl ch made mkO S bk) (hL : cLed M ra ch S la bk l) (hV : cVw M S va bk la ua up l) (ho : lOk made l) (x : Int32) : fk_10_bindOf S va (Int32.ofNat c) x = some (match bdR M ch l up c x with | none => none | some r => if M.2 9 r = 15 then some (ra r) else none) := by
  have v1 := hV.1.1
  have v4 := hV.1.2.2.2.1
  unfold fk_10_bindOf
  rw [ckk_y v1, v4, bd_s, k_at hc hL]
  have hlen := chL_len (M := M) (ch := ch) (l := l) c
  have hle := ho.2.1
  have key := walkD (σ := Unit) (β := Option Nat) (ra := ra) (L := chL M ch l c) (F := fun n _ o => fk_10_bindOf_10 S n va x o) (step := fun s r => if (decide (M.2 12 r = x) && gv M l up r) then .inr (if M.2 9 r = 15 then some (some (ra r)) else some none) else .inl s) (fin := fun _ => some none) (fun _ => True)
    (fun n st _ => by rw [fk_10_bindOf_10]; rfl)
    (fun n st i hi _ => by
      obtain ⟨q1, q2⟩ := ho.2.2 _ (chL_mem.mp (List.getElem_mem hi)).1
      obtain ⟨-, k9, ⟨k0, -, -, k4, -⟩, -⟩ := hB.2.2.1 _ q1 q2
      show fk_10_bindOf_10 S (n + 1) va x (some (ra (chL M ch l c)[i])) = _
      rw [fk_10_bindOf_10]
      show ckk S (ra (chL M ch l c)[i]) 9 _ = _
      have go : fk_10_bindOf_45 (fk_10_bindOf_10 S n) S va x (some (ra (chL M ch l c)[i])) = fk_10_bindOf_10 S n va x (pvL ra (chL M ch l c) i) := by
        unfold fk_10_bindOf_45
        rw [ckk_y v1, v4, bd_s]
        exact k_dn hc hB hL ho hi (fun o => fk_10_bindOf_10 S n va x o)
      rw [ckk_y k9, k4]
      by_cases hx : M.2 12 (chL M ch l c)[i] = x
      · rw [if_pos hx, ckk_y v1, k_isGood hB hL hV ho q1 q2, bd_s, decide_eq_true hx, Bool.true_and]
        cases hg : gv M l up (chL M ch l c)[i]
        · rw [if_pos (b2_f (by simp)), go]; rfl
        · rw [if_neg (fun q => absurd (((b2_0 _).mp q)) (by simp)), ckk_y k9, k0]; rfl
      · rw [if_neg hx, go, decide_eq_false hx, Bool.false_and]; rfl)
    (fun _ _ _ _ _ _ => trivial) (chL M ch l c).length mFU () (Nat.le_refl _) (Nat.lt_of_le_of_lt (Nat.le_trans hlen hle) (by decide)) trivial
  have key' : fk_10_bindOf_10 S mFU va x (pvL ra (chL M ch l c) (chL M ch l c).length) = _ := key
  rw [key', List.take_length, runL_find]
  unfold bdR
  cases List.find? (fun r => decide (M.2 12 r = x) && gv M l up r) (chL M ch l c).reverse with
  | none => rfl
  | some r => show (if M.2 9 r = 15 then some (some (ra r)) else some none) = some (if M.2 9 r = 15 then some (ra r) else none); split <;> rfl
/-- the erase by which an insert doesn't stand -/
def erR (M : mSt) (ch : Nat → Int32) (l : List Nat) (up c i : Nat) : Option Nat := (chL M ch l c).reverse.find? (fun r => decide (M.2 9 r = 10) && (decide (M.2 13 r = Int32.ofNat (rNm i)) && gv M l up r))
theorem k_stands {c i0 : Nat} (hc : c < 385) (hB : cBk M ra sl ch made mkO S bk) (hL : cLed M ra ch S la bk l) (hV : cVw M S va bk la ua up l) (ho : lOk made l) (hi0 : i0 < 1000) (hm0 : made i0) (hch : ch i0 = Int32.ofNat c) : fk_10_stands S va (ra i0) = some (b2 (gv M l up i0 = true ∧ erR M ch l up c i0 = none)) := by
  have v1 := hV.1.1
  have v4 := hV.1.2.2.2.1
  obtain ⟨-, j9, -, ⟨-, -, j11, -⟩, -, j13, -⟩ := hB.2.2.1 _ hi0 hm0
  unfold fk_10_stands
  rw [ckk_y v1, k_isGood hB hL hV ho hi0 hm0, bd_s]
  cases hg0 : gv M l up i0
  · rw [if_pos (b2_f (by simp)), b2_f (by simp)]; rfl
  · rw [if_neg (fun q => absurd (((b2_0 _).mp q)) (by simp)), ckk_y v1, v4, bd_s]
    have e1 := k_at hc hL (fun o5 => fk_10_stands_23 S mFU va (ra i0) o5)
    have hlen := chL_len (M := M) (ch := ch) (l := l) c
    have hle := ho.2.1
    simp only [ckk_y j9, j13, hch]
    rw [e1]
    have key := walkD (σ := Unit) (β := Int32) (ra := ra) (L := chL M ch l c) (F := fun n _ o => fk_10_stands_23 S n va (ra i0) o) (step := fun s r => if (decide (M.2 9 r = 10) && (decide (M.2 13 r = Int32.ofNat (rNm i0)) && gv M l up r)) then .inr (some 0) else .inl s) (fin := fun _ => some 1) (fun _ => True)
      (fun n st _ => by rw [fk_10_stands_23]; rfl)
      (fun n st i hi _ => by
        obtain ⟨q1, q2⟩ := ho.2.2 _ (chL_mem.mp (List.getElem_mem hi)).1
        obtain ⟨-, k9, ⟨k0, -, -, -, k5, -⟩, -⟩ := hB.2.2.1 _ q1 q2
        show fk_10_stands_23 S (n + 1) va (ra i0) (some (ra (chL M ch l c)[i])) = _
        rw [fk_10_stands_23]
        show ckk S (ra (chL M ch l c)[i]) 9 _ = _
        have go : fk_10_stands_57 (fk_10_stands_23 S n) S va (ra i0) (some (ra (chL M ch l c)[i])) = fk_10_stands_23 S n va (ra i0) (pvL ra (chL M ch l c) i) := by
          unfold fk_10_stands_57
          rw [ckk_y v1, v4, bd_s]
          exact k_dn hc hB hL ho hi (fun o => fk_10_stands_23 S n va (ra i0) o)
        rw [ckk_y k9, k0]
        by_cases hx : M.2 9 (chL M ch l c)[i] = 10
        · rw [if_pos hx, ckk_y k9, ckk_y j9, k5, j11, decide_eq_true hx, Bool.true_and]
          by_cases hy : M.2 13 (chL M ch l c)[i] = Int32.ofNat (rNm i0)
          · rw [if_pos hy, ckk_y v1, k_isGood hB hL hV ho q1 q2, bd_s, decide_eq_true hy, Bool.true_and]
            cases hg : gv M l up (chL M ch l c)[i]
            · rw [if_pos (b2_f (by simp)), go]; rfl
            · rw [if_neg (fun q => absurd (((b2_0 _).mp q)) (by simp))]; rfl
          · rw [if_neg hy, go, decide_eq_false hy, Bool.false_and]; rfl
        · rw [if_neg hx, go, decide_eq_false hx, Bool.false_and]; rfl)
      (fun _ _ _ _ _ _ => trivial) (chL M ch l c).length mFU () (Nat.le_refl _) (Nat.lt_of_le_of_lt (Nat.le_trans hlen hle) (by decide)) trivial
    have key' : fk_10_stands_23 S mFU va (ra i0) (pvL ra (chL M ch l c) (chL M ch l c).length) = _ := key
    rw [key', List.take_length, runL_find]
    unfold erR
    cases List.find? (fun r => decide (M.2 9 r = 10) && (decide (M.2 13 r = Int32.ofNat (rNm i0)) && gv M l up r)) (chL M ch l c).reverse with
    | none => rw [b2_t (by simp)]
    | some r => rw [b2_f (fun q => by cases q.2)]
/-- a step of the lease: who holds, till when -/
def hSt (M : mSt) (s : Int32 × Int32) (r : Nat) : Int32 × Int32 :=
  if M.2 9 r = 18 then (s.1, if s.1 ≠ -1 ∧ M.2 14 r < s.2 ∧ s.1 = Int32.ofNat (rN r) then M.2 14 r else s.2)
  else if ¬ (s.1 ≠ -1 ∧ M.2 14 r < s.2) then (Int32.ofNat (rN r), M.2 14 r + M.2 12 r)
  else if s.1 = Int32.ofNat (rN r) then (s.1, if s.2 < M.2 14 r + M.2 12 r then M.2 14 r + M.2 12 r else s.2) else s
def hEnd (now : Int32) (s : Int32 × Int32) : Int32 := if s.1 ≠ -1 ∧ now < s.2 then s.1 else -1
theorem k_holderOf {j : Nat} (hj : j < 48) (hB : cBk M ra sl ch made mkO S bk) (hL : cLed M ra ch S la bk l) (hV : cVw M S va bk la ua up l) (ho : lOk made l) (now : Int32) : fk_10_holderOf S va (Int32.ofNat j) now = some (hEnd now ((chL M ch l (8 * j + 7)).foldl (hSt M) (-1, 0))) := by
  have v1 := hV.1.1
  have v4 := hV.1.2.2.2.1
  have hc : 8 * j + 7 < 385 := by omega
  unfold fk_10_holderOf
  rw [lt_d, show (8 : Int32) = Int32.ofNat 8 from rfl, show (7 : Int32) = Int32.ofNat 7 from rfl, jI_mul, jI_add, show j * 8 + 7 = 8 * j + 7 by omega, ckk_y v1, v4, bd_s, k_at0 hc hL]
  generalize 8 * j + 7 = c at hc
  have hlen := chL_len (M := M) (ch := ch) (l := l) c
  have hle := ho.2.1
  have key := walkA (σ := Int32 × Int32) (β := Int32) (ra := ra) (L := chL M ch l c) (F := fun n s o => fk_10_holderOf_26 S n va now s.1 s.2 o) (step := fun s r => .inl (hSt M s r)) (fin := fun s => some (hEnd now s)) (fun _ => True)
    (fun n st _ => by
      show fk_10_holderOf_26 S (n + 1) va now st.1 st.2 none = _
      rw [fk_10_holderOf_26]
      show (if st.1 = -1 then _ else _) = _
      unfold fk_10_holderOf_179 fk_10_holderOf_180 hEnd
      by_cases h1 : st.1 = -1
      · rw [if_pos h1, if_neg (fun q => q.1 h1)]
      · rw [if_neg h1]
        by_cases h2 : st.2 ≤ now
        · rw [if_pos h2, if_neg (fun q => absurd q.2 (Int32.not_lt.mpr h2))]
        · rw [if_neg h2, if_pos ⟨h1, Int32.not_le.mp h2⟩])
    (fun n st i hi _ => by
      obtain ⟨q1, q2⟩ := ho.2.2 _ (chL_mem.mp (List.getElem_mem hi)).1
      obtain ⟨-, k9, ⟨k0, -, -, k4, -, k8, -⟩, ⟨k6, -⟩, -⟩ := hB.2.2.1 _ q1 q2
      show fk_10_holderOf_26 S (n + 1) va now st.1 st.2 (some (ra (chL M ch l c)[i])) = fk_10_holderOf_26 S n va now (hSt M st (chL M ch l c)[i]).1 (hSt M st (chL M ch l c)[i]).2 (nxL ra (chL M ch l c) (i + 1))
      rw [fk_10_holderOf_26]
      show (if st.1 = -1 then _ else _) = _
      have go : ∀ x y : Int32, fk_10_holderOf_146 (fk_10_holderOf_26 S n) S va now x y (some (ra (chL M ch l c)[i])) = fk_10_holderOf_26 S n va now x y (nxL ra (chL M ch l c) (i + 1)) := fun x y => by
        unfold fk_10_holderOf_146
        rw [ckk_y v1, v4, bd_s]
        exact k_up hc hB hL ho hi (fun o => fk_10_holderOf_26 S n va now x y o)
      have hb : ∀ (b : Int32) (hh : b = 0 ∨ b = 1), (b = 1 ↔ st.1 ≠ -1 ∧ M.2 14 (chL M ch l c)[i] < st.2) → fk_10_holderOf_51 (fk_10_holderOf_26 S n) S va now st.1 st.2 (some (ra (chL M ch l c)[i])) b = fk_10_holderOf_26 S n va now (hSt M st (chL M ch l c)[i]).1 (hSt M st (chL M ch l c)[i]).2 (nxL ra (chL M ch l c) (i + 1)) := by
        intro b hh hiff
        unfold fk_10_holderOf_51 fk_10_holderOf_85 fk_10_holderOf_87 hSt
        simp only [bd_s, ckk_y k9, k0, k6, k8, k4, lt_d, go]
        by_cases h18 : M.2 9 (chL M ch l c)[i] = 18
        · rw [if_pos h18, if_pos h18]
          by_cases hb0 : b = 0
          · have hn : ¬ (st.1 ≠ -1 ∧ M.2 14 (chL M ch l c)[i] < st.2) := fun q => by rw [hiff.mpr q] at hb0; exact absurd hb0 (by decide)
            rw [if_pos hb0, if_neg (fun q => hn ⟨q.1, q.2.1⟩)]
          · have hy := hiff.mp (hh.resolve_left hb0)
            rw [if_neg hb0]
            by_cases h3 : st.1 = Int32.ofNat (rN (chL M ch l c)[i])
            · rw [if_pos h3, if_pos ⟨hy.1, hy.2, h3⟩]
            · rw [if_neg h3, if_neg (fun q => h3 q.2.2)]
        · rw [if_neg h18, if_neg h18]
          by_cases hb0 : b = 0
          · have hn : ¬ (st.1 ≠ -1 ∧ M.2 14 (chL M ch l c)[i] < st.2) := fun q => by rw [hiff.mpr q] at hb0; exact absurd hb0 (by decide)
            rw [if_pos hb0, if_pos hn]
          · have hy := hiff.mp (hh.resolve_left hb0)
            rw [if_neg hb0, if_neg (show ¬ ¬ (st.1 ≠ -1 ∧ M.2 14 (chL M ch l c)[i] < st.2) from fun q => q hy)]
            by_cases h3 : st.1 = Int32.ofNat (rN (chL M ch l c)[i])
            · rw [if_pos h3, if_pos h3]
            · rw [if_neg h3, if_neg h3]
      by_cases h1 : st.1 = -1
      · rw [if_pos h1]
        exact hb 0 (Or.inl rfl) ⟨fun q => absurd q (by decide), fun q => absurd h1 q.1⟩
      · rw [if_neg h1, ckk_y k9, k8]
        by_cases h2 : st.2 ≤ M.2 14 (chL M ch l c)[i]
        · rw [if_pos h2]
          exact hb 0 (Or.inl rfl) ⟨fun q => absurd q (by decide), fun q => absurd q.2 (Int32.not_lt.mpr h2)⟩
        · rw [if_neg h2]
          exact hb 1 (Or.inr rfl) ⟨fun _ => ⟨h1, Int32.not_le.mp h2⟩, fun _ => rfl⟩)
    (fun _ _ _ _ _ _ => trivial) (chL M ch l c).length 0 mFU (-1, 0) (by omega) (Nat.lt_of_le_of_lt (Nat.le_trans hlen hle) (by decide)) trivial
  have key' : fk_10_holderOf_26 S mFU va now (-1) 0 (nxL ra (chL M ch l c) 0) = _ := key
  rw [key', runL_fold, List.drop_zero]
end V
