-- part 43: a ledger takes a row
section V
variable {M : mSt} {ra : Nat → Nat} {sl ch : Nat → Int32} {made : Nat → Prop} {mkO : Nat → Option Nat} {S S' : cSt} {bk la va ua up vb tx : Nat} {l : List Nat} {W : Nat → Prop}
theorem k_has (hB : cBk M ra sl ch made mkO S bk) (hL : cLed M ra ch S la bk l) (hle : l.length ≤ 1000) {r : Nat} (hr : r < 1000) (hm : made r) : fk_4_has S la (ra r) = some (b2 (r ∈ l)) := by
  obtain ⟨-, k9, -, ⟨-, -, -, k12⟩, -⟩ := hB.2.2.1 r hr hm
  obtain ⟨⟨l1, l2, l3⟩, l4, l5, l6⟩ := hL.1
  have p1 := l4 1 (by decide)
  unfold fk_4_has fk_4_has_17
  rw [ckk_y l1, l3 1 (by decide), bd_s, ckk_y k9, ckk_y p1.1, p1.2, k12, ck_n hr (by omega), jI_cl (by omega)]
  show (if kI S (la + 2) r ≤ 0 then _ else _) = _
  by_cases h : r ∈ l
  · obtain ⟨i, hi, rfl⟩ := List.mem_iff_getElem.mp h
    rw [(hL.2.2.1 i hi).2, if_neg (jI_p (by omega) (by omega)), b2_t h]; rfl
  · rw [hL.2.2.2.1 r hr h, if_pos (by decide), b2_f h]; rfl
def inLd (la : Nat) : Nat → Prop := fun a => la ≤ a ∧ a < la + 8
set_option maxHeartbeats 4000000 in
theorem k_take (ht : tOk M) (hB : cBk M ra sl ch made mkO S bk) (hL : cLed M ra ch S la bk l) (ho : lOk made l) (hla : bk + 5 ≤ la ∧ la + 8 ≤ bk + 128) {r : Nat} (hr : r < 1000) (hm : made r) (hrl : r ∉ l) (hlen : l.length < 1000) (htg : (M.2 9 r = 13 ∨ M.2 9 r = 14) → ∃ t, rOf (M.2 13 r) = some t ∧ made t) (hch : ch r = -1 ∨ ∃ c, c < 385 ∧ ch r = Int32.ofNat c) : ∃ S', fk_4_take S la (ra r) = some S' ∧ cEq (inLd la) S S' ∧ kR S' la = kR S la ∧ (∀ k, k ≠ 7 → kF S' la k = kF S la k) ∧ cLed M ra ch S' la bk (l ++ [r]) := by
  obtain ⟨y, f7, came, plc, und, dl, lk⟩ := id hL
  obtain ⟨⟨y5, y8, yr⟩, y1, y2, y3⟩ := id y
  obtain ⟨-, k9, -, ⟨-, -, -, k12⟩, -, k13, -⟩ := hB.2.2.1 r hr hm
  have c1 := y1 0 (by decide)
  have c2 := y1 1 (by decide)
  have c3 := y1 2 (by decide)
  have r0 := yr 0 (by decide)
  have r1 := yr 1 (by decide)
  have r2 := yr 2 (by decide)
  simp only [Nat.add_assoc, Nat.reduceAdd, Nat.add_zero] at c1 c2 c3 r0 r1 r2
  have hone : Int32.ofNat l.length + 1 = Int32.ofNat (l.length + 1) := jI_add _ 1
  -- the states
  have S4 : cWi S (la + 1) l.length (Int32.ofNat r) = sI S (la + 1) (upd (kI S (la + 1)) l.length (Int32.ofNat r)) := cWi_sI _ _ _ _
  generalize hf1 : upd (kI S (la + 1)) l.length (Int32.ofNat r) = f1 at S4
  generalize hT5 : cPi (sI S (la + 1) f1) la 7 (Int32.ofNat (l.length + 1)) = T5
  have e5 : cEq (inLd la) S T5 := by rw [← hT5]; exact cEq_trans (cEq_sI f1 (show inLd la (la + 1) by unfold inLd; omega)) (cEq_cPi _ (show inLd la la by unfold inLd; omega))
  have x5k : ∀ a, kK T5 a = kK S a := e5.1
  have x5l : ∀ a, kL T5 a = kL S a := e5.2.1
  have x5r : kR T5 = kR S := by rw [← hT5]; rfl
  have x5f : kF T5 la 7 = Int32.ofNat (l.length + 1) := by rw [← hT5]; exact kF_cPi _ _ _ _
  have x5f' : ∀ k, k ≠ 7 → kF T5 la k = kF S la k := fun k hk => by rw [← hT5]; exact kF_cPo _ _ (fun q => hk q.2)
  have x5i : kI T5 (la + 1) = f1 := by rw [← hT5]; exact kI_sI _ _ _
  have x5i' : ∀ a, a ≠ la + 1 → kI T5 a = kI S a := fun a ha => by rw [← hT5]; exact kI_sIo _ _ ha
  have x5o : kO T5 = kO S := by rw [← hT5]; rfl
  have hB5 : cBk M ra sl ch made mkO T5 bk := cBk_eq hB e5 (fun a ha => by unfold inLd at ha; omega)
  obtain ⟨-, j9, -, ⟨-, -, -, j12⟩, -, j13, -⟩ := hB5.2.2.1 r hr hm
  generalize hf2 : upd (kI S (la + 2)) r (Int32.ofNat (l.length + 1)) = f2
  have S7 : cWi T5 (la + 2) r (Int32.ofNat (l.length + 1)) = sI T5 (la + 2) f2 := by rw [cWi_sI, x5i' _ (by omega), hf2]
  have e7 : cEq (inLd la) S (sI T5 (la + 2) f2) := cEq_trans e5 (cEq_sI f2 (show inLd la (la + 2) by unfold inLd; omega))
  have hB7 : cBk M ra sl ch made mkO (sI T5 (la + 2) f2) bk := cBk_eq hB e7 (fun a ha => by unfold inLd at ha; omega)
  have k7 : kK (sI T5 (la + 2) f2) la = 5 := (x5k la).trans y5
  have k78 : kR (sI T5 (la + 2) f2) la 8 = some bk := by show kR T5 la 8 = _; rw [x5r]; exact y8
  obtain ⟨f3, m1, m2⟩ := k_mark hB7 k7 k78 (p := la + 3) (by omega) ((x5k _).trans c3.1) ((x5l _).trans c3.2) hr hm htg (kI (sI T5 (la + 2) f2) (la + 3))
  rw [sI_id] at m1
  generalize hT10 : sI (sI T5 (la + 2) f2) (la + 3) f3 = T10 at m1
  have e10 : cEq (inLd la) S T10 := by rw [← hT10]; exact cEq_trans e7 (cEq_sI f3 (show inLd la (la + 3) by unfold inLd; omega))
  have hB10 : cBk M ra sl ch made mkO T10 bk := cBk_eq hB e10 (fun a ha => by unfold inLd at ha; omega)
  have x10r : kR T10 = kR S := by rw [← hT10]; exact x5r
  have x10f : ∀ k, kF T10 la k = kF T5 la k := fun k => by rw [← hT10]; rfl
  have x10o : kO T10 = kO S := by rw [← hT10]; exact x5o
  have x101 : kI T10 (la + 1) = f1 := by rw [← hT10, kI_sIo _ _ (by omega), kI_sIo _ _ (by omega)]; exact x5i
  have x102 : kI T10 (la + 2) = f2 := by rw [← hT10, kI_sIo _ _ (by omega), kI_sI]
  have x103 : kI T10 (la + 3) = f3 := by rw [← hT10, kI_sI]
  have y10 : cLay T10 la bk := by unfold cLay; simp only [e10.1, e10.2.1, x10r]; exact y
  obtain ⟨-, i9, -, ⟨-, -, -, i12⟩, -, i13, -⟩ := hB10.2.2.1 r hr hm
  have dl10 : ∀ c, c < 385 → cDl ra T10 la c (chL M ch l c) := fun c hc => by
    have := dl c hc
    unfold cDl at this ⊢
    rw [x10o]; exact this
  have fin : ∀ T, cEq (inC la) T10 T → (∀ k, kF T la k = kF T10 la k) → kR T la = kR T10 la → (∀ c, c < 385 → cDl ra T la c (chL M ch (l ++ [r]) c)) → lkR ra T la (l ++ [r]) → cEq (inLd la) S T ∧ kR T la = kR S la ∧ (∀ k, k ≠ 7 → kF T la k = kF S la k) ∧ cLed M ra ch T la bk (l ++ [r]) := fun T eT hfT hrT hdT hlT => by
    have q1 := eT.2.2.2.2 (la + 1) (by unfold inC; omega)
    have q2 := eT.2.2.2.2 (la + 2) (by unfold inC; omega)
    have q3 := eT.2.2.2.2 (la + 3) (by unfold inC; omega)
    refine ⟨cEq_trans e10 (cEq_mono eT (fun a ha => by unfold inC at ha; unfold inLd; omega)), by rw [hrT, x10r], fun k hk => by rw [hfT, x10f, x5f' k hk], ?_, ?_, ?_, ?_, ?_, hdT, hlT⟩
    · unfold cLay
      simp only [eT.1, eT.2.1, e10.1, e10.2.1, hrT, x10r]; exact y
    · rw [hfT, x10f, x5f]; congr 1; simp
    · intro i hi
      rw [List.length_append] at hi
      have hi' : i < l.length + 1 := hi
      rw [q1.2.2.1, q2.2.2.1, x101, x102, ← hf1, ← hf2]
      by_cases ei : i = l.length
      · subst ei
        rw [List.getElem_append_right (Nat.le_refl _)]
        simp only [Nat.sub_self, List.getElem_cons_zero]
        rw [upd_s, upd_s]; exact ⟨rfl, rfl⟩
      · have hi2 : i < l.length := by omega
        have hne : l[i] ≠ r := fun e => hrl (e ▸ List.getElem_mem hi2)
        rw [List.getElem_append_left hi2, upd_o _ _ ei, upd_o _ _ hne]
        exact came i hi2
    · intro q hq hql
      rw [q2.2.2.1, x102, ← hf2]
      have hne : q ≠ r := fun e => hql (e ▸ List.mem_append.mpr (Or.inr (List.mem_singleton.mpr rfl)))
      rw [upd_o _ _ hne]
      exact plc q hq (fun h => hql (List.mem_append.mpr (Or.inl h)))
    · intro q hq
      rw [q3.2.2.1, x103, m2, gd_app]
      have hk3 : kI (sI T5 (la + 2) f2) (la + 3) q = b2 (gd M l q = false) := by
        rw [kI_sIo _ _ (by omega), x5i' _ (by omega)]; exact und q hq
      by_cases hi : isT M q r = true
      · rw [if_pos hi, if_pos hi]
      · rw [if_neg hi, if_neg hi]; exact hk3
  unfold fk_4_take fk_4_take_66
  have w5 : kK T5 la = 5 := (x5k la).trans y5
  have w51 : kR T5 la 1 = some (la + 2) := by rw [x5r]; exact r1
  have w7r : kR (sI T5 (la + 2) f2) la 2 = some (la + 3) := by show kR T5 la 2 = _; rw [x5r]; exact r2
  have w4 : kK (sI S (la + 1) f1) la = 5 := y5
  have w4f : kF (sI S (la + 1) f1) la 7 = Int32.ofNat l.length := f7
  rw [ckk_y y5, k_has hB hL (by omega) hr hm, bd_s, b2_f hrl, if_pos rfl, ckk_y y5, r0, bd_s, ckk_y y5, ckk_y k9, ckk_y c1.1, c1.2, f7, ck_n hlen (by omega), lt_d, k12, jI_cl (by omega), S4]
  rw [ckk_y w4, ckk_y w4, w4f, hone, hT5, lt_d, ckk_y w5, w51, bd_s, ckk_y j9, ckk_y w5, ckk_y ((x5k _).trans c2.1), x5l, c2.2, j12, ck_n hr (by omega), lt_d, jI_cl (by omega), x5f, S7]
  rw [ckk_y k7, w7r, bd_s, ckk_y k7, m1, bd_s, ckk_y i9, i13]
  rcases hch with h | ⟨c, hc, h⟩
  · rw [h, if_pos (by decide)]
    have lk10 : lkR ra T10 la (l ++ [r]) := fun q hq => by
      rw [x10o]
      obtain ⟨z1, z2⟩ := lk q hq
      exact ⟨z1.imp id (fun ⟨t, t1, t2⟩ => ⟨t, List.mem_append.mpr (Or.inl t1), t2⟩), z2.imp id (fun ⟨t, t1, t2⟩ => ⟨t, List.mem_append.mpr (Or.inl t1), t2⟩)⟩
    refine ⟨T10, rfl, fin T10 (cEq_refl _ _) (fun _ => rfl) rfl (fun c hc => ?_) lk10⟩
    have : chL M ch (l ++ [r]) c = chL M ch l c := by
      unfold chL
      rw [List.filter_append]
      have hne : ¬ ch r = Int32.ofNat c := fun q => jI_ne (show c < 2147483648 by omega) (q.symm.trans h)
      have : List.filter (fun r => decide (ch r = Int32.ofNat c)) [r] = [] := by simp [hne]
      rw [this, List.append_nil]
    rw [this]; exact dl10 c hc
  · obtain ⟨T12, n1, n2, n3, n5⟩ := k_link ht hB10 y10 hc hr hm hrl ho h dl10
    rw [h, if_neg (jI_nn (by omega)), ckk_y ((e10.1 la).trans y5), n1, bd_s]
    have n4 := n2.2.2.2.2 la (by unfold inC; omega)
    have lk12 : lkR ra T12 la (l ++ [r]) := fun q hq => by
      obtain ⟨z1, z2⟩ := lk q hq
      obtain ⟨y1, y2⟩ := n5 q
      rw [x10o] at y1 y2
      refine ⟨?_, ?_⟩
      · rcases y1 with y | y | y
        · rw [y]; exact z1.imp id (fun ⟨t, t1, t2⟩ => ⟨t, List.mem_append.mpr (Or.inl t1), t2⟩)
        · exact Or.inl y
        · exact Or.inr y
      · rcases y2 with y | y | y
        · rw [y]; exact z2.imp id (fun ⟨t, t1, t2⟩ => ⟨t, List.mem_append.mpr (Or.inl t1), t2⟩)
        · exact Or.inl y
        · exact Or.inr y
    exact ⟨T12, rfl, fin T12 n2 (fun k => by rw [n4.1]) n4.2.1 n3 lk12⟩
/-- a look back -/
theorem k_lookBack (hB : cBk M ra sl ch made mkO S bk) (hL : cLed M ra ch S la bk l) (ho : lOk made l) (hva : bk + 5 ≤ va ∧ va + 1 < bk + 128 ∧ la + 8 ≤ va) (hk : kK S va = 11) (hr1 : kR S va 1 = some bk) (hr2 : kR S va 2 = some (va + 1)) (hu : kK S (va + 1) = 20 ∧ kL S (va + 1) = 1000) (htg : ∀ r ∈ l, (M.2 9 r = 13 ∨ M.2 9 r = 14) → ∃ t, rOf (M.2 13 r) = some t ∧ made t) {k : Nat} (hkl : k ≤ l.length) : ∃ S', fk_10_lookBack S va la (Int32.ofNat k) = some S' ∧ cEq (fun a => a = va ∨ a = va + 1) S S' ∧ (∀ j, j ≠ 7 → kR S' va j = kR S va j) ∧ cVw M S' va bk la (va + 1) k l := by
  have hle := ho.2.1
  obtain ⟨y, f7, came, plc, und, dl, -⟩ := id hL
  obtain ⟨⟨y5, y8, yr⟩, y1, y2, y3⟩ := id y
  have c1 := y1 0 (by decide)
  have r0 := yr 0 (by decide)
  simp only [Nat.add_assoc, Nat.reduceAdd, Nat.add_zero] at c1 r0
  unfold fk_10_lookBack
  generalize hT : cPi (cPr S va 7 (some la)) va 8 (Int32.ofNat k) = T
  have eT : cEq (fun a => a = va ∨ a = va + 1) S T := by rw [← hT]; exact cEq_trans (cEq_cPr _ (Or.inl rfl)) (cEq_cPi _ (Or.inl rfl))
  have tR : ∀ j, j ≠ 7 → kR T va j = kR S va j := fun j hj => by
    rw [← hT]
    show up2 S.2.2.1 va 7 (some la) va j = _
    unfold up2
    rw [if_neg (fun q => hj q.2)]; rfl
  have tR7 : kR T va 7 = some la := by
    rw [← hT]
    show up2 S.2.2.1 va 7 (some la) va 7 = _
    unfold up2
    rw [if_pos ⟨rfl, rfl⟩]
  have tF8 : kF T va 8 = Int32.ofNat k := by rw [← hT]; exact kF_cPi _ _ _ _
  have tk : kK T va = 11 := (eT.1 va).trans hk
  have q0 : kK (cPr S va 7 (some la)) va = 11 := hk
  obtain ⟨f0, g1, g2⟩ := k_fill (S := T) (p := va + 1) ((eT.1 _).trans hu.1) ((eT.2.1 _).trans hu.2) (by decide) 0
  rw [ckk_y hk, lt_d, ckk_y q0, lt_d, hT, ckk_y tk, tR 2 (by decide), hr2, bd_s, g1, bd_s]
  have hBf : ∀ f, cBk M ra sl ch made mkO (sI T (va + 1) f) bk := fun f => cBk_eq hB (cEq_trans eT (cEq_sI (W := fun a => a = va ∨ a = va + 1) f (Or.inr rfl))) (fun a ha => by rcases ha with ha | ha <;> omega)
  have hLf : ∀ f, cLed M ra ch (sI T (va + 1) f) la bk l := fun f => cLed_eq hL (cEq_trans eT (cEq_sI (W := fun a => a = va ∨ a = va + 1) f (Or.inr rfl))) (fun a ha => by rcases ha with ha | ha <;> omega)
  obtain ⟨b, h1, f, h2, h3⟩ := loopI (σ := Nat → Int32) (β := cSt) (N := k) (F := fun n f i => fk_10_lookBack_20 n (sI T (va + 1) f) va la (Int32.ofNat k) (Int32.ofNat i)) (Q := fun b => ∃ f, b = sI T (va + 1) f ∧ ∀ q, q < 1000 → f q = b2 (gd M (l.take k) q = false)) (fun i f => ∀ q, q < 1000 → f q = b2 (gd M (l.take i) q = false))
    (fun n f h => ⟨sI T (va + 1) f, by
      show fk_10_lookBack_20 (n + 1) (sI T (va + 1) f) va la (Int32.ofNat k) (Int32.ofNat k) = _
      rw [fk_10_lookBack_20, if_pos ((jI_le (by omega) (by omega)).mpr (Nat.le_refl _))], f, rfl, h⟩)
    (fun n f i hi h => Or.inl (by
      have hil : i < l.length := by omega
      obtain ⟨p1, p2⟩ := ho.2.2 _ (List.getElem_mem hil)
      have hBi := hBf f
      have hLi := hLf f
      have b1 : kK (sI T (va + 1) f) bk = 1 := hBi.1.1
      have b0 := hBi.1.2.1
      have b3 := hBi.2.1.1
      have b3' := hBi.2.1.2.1
      have bO := (hBi.2.2.1 _ p1 p2).1
      have t11 : kK (sI T (va + 1) f) va = 11 := tk
      have tr1 : kR (sI T (va + 1) f) va 1 = some bk := (tR 1 (by decide)).trans hr1
      have tr2 : kR (sI T (va + 1) f) va 2 = some (va + 1) := (tR 2 (by decide)).trans hr2
      have l5 := hLi.1.1.1
      have lr0 : kR (sI T (va + 1) f) la 0 = some (la + 1) := by have := hLi.1.1.2.2 0 (by decide); simpa using this
      have lk1 := hLi.1.2.1 0 (by decide)
      simp only [Nat.add_zero] at lk1
      have cm := (hLi.2.2.1 i hil).1
      have hone : Int32.ofNat i + 1 = Int32.ofNat (i + 1) := jI_add i 1
      obtain ⟨f', m1, m2⟩ := k_mark (S := T) (la := la) (cBk_eq hB eT (fun a ha => by rcases ha with ha | ha <;> omega)) ((eT.1 la).trans y5) (by
        have := (eT.2.2.2.2 la (by intro q; rcases q with q | q <;> omega)).2.1
        rw [this]; exact y8) (p := va + 1) (by omega) ((eT.1 _).trans hu.1) ((eT.2.1 _).trans hu.2) p1 p2 (htg _ (List.getElem_mem hil)) f
      refine ⟨f', fun q hq => ?_, ?_⟩
      · rw [m2, take_app hil, gd_app]
        by_cases c : isT M q l[i] = true
        · rw [if_pos c, if_pos c]
        · rw [if_neg c, if_neg c]; exact h q hq
      · show fk_10_lookBack_20 (n + 1) (sI T (va + 1) f) va la (Int32.ofNat k) (Int32.ofNat i) = _
        rw [fk_10_lookBack_20, if_neg (fun q => absurd ((jI_le (by omega) (by omega)).mp q) (by omega)), ckk_y t11, tr1, bd_s, ckk_y b1, b0, bd_s, ckk_y l5, lr0, bd_s, ckk_y lk1.1, lk1.2, ck_n (by omega) (by omega), ckk_y b3, b3', jI_cl (by omega), cm, ck_n p1 (by omega), lt_d, jI_cl (by omega), bO, ckk_y t11, tr2, bd_s, bd_s, ckk_y l5, m1, bd_s, lt_d, hone]))
    k 0 mFU f0 (by omega) (by unfold mFU; omega) (fun q hq => by rw [g2 q hq]; rfl)
  refine ⟨sI T (va + 1) f, by rw [← h2]; exact h1, cEq_trans eT (cEq_sI f (Or.inr rfl)), tR, ⟨tk, (tR 1 (by decide)).trans hr1, (tR 2 (by decide)).trans hr2, tR7, tF8⟩, by omega, (eT.1 _).trans hu.1, (eT.2.1 _).trans hu.2, fun q hq => by rw [kI_sI]; exact h3 q hq⟩
end V
