-- made by wip/whole/gen18.py: the start
def pT0 : List Int32 := [32, 76, 83, 67, 66, 66, 66, 65, 65, 84, 84, 32, 32, 32, 32, 77, 77, 32, 32]
def pT1 : List Int32 := [76, 83, 67, 66, 65, 84, 77]
/-- a text of the class's, as the start has it -/
def pStr (S : cSt) (t b n : Nat) (tx : List Int32) : Prop := kK S t = 13 ∧ kR S t 0 = some b ∧ kF S t 1 = 0 ∧ kK S b = 23 ∧ kL S b = n ∧ ∀ j, j < n → kI S b j = tx.getD j 0
def pS0 (S0 : cSt) : Prop := (∀ a, kZ S0 ≤ a → kK S0 a = 0) ∧ ∃ b0 b1, pStr S0 (kT S0 0) b0 19 pT0 ∧ pStr S0 (kT S0 1) b1 7 pT1
theorem p_tb (i : Nat) {w : Cond} (h : tables_1[i]? = some w) : w ∈ lw_tbl := List.mem_append_right _ (List.mem_of_getElem? h)
theorem p_fl (i : Nat) {w : Cond} (h : (flatC (Jvm.Cond.and given_1 narrow_1))[i]? = some w) : w ∈ flatC (Jvm.Cond.and given_1 narrow_1) := List.mem_of_getElem? h
section PS
variable {s : State} {args : Array Value}
theorem p_arr {ty : FieldType} (h : (Cond.arrayClass ty).before args s = true) : ∃ cA : ClassId, ArrOfT s cA ty ∧ s.vm.findClass ("[" ++ ty.toString) = some cA := by
  obtain ⟨c, k, comp, h1, h2, h3⟩ := Cond.arrayClass_spec (args := args) (first := s) (o := none) (s := s) (idx := []) h
  exact ⟨c, fun n z => ⟨(fun k h => by cases h), k, h2, comp, h3⟩, h1⟩
theorem p_aov {C9 : String} (h : (Cond.arrayOver (.object C9)).before args s = true) : ∃ cA : ClassId, ArrOfT s cA (.object C9) ∧ va_RA s cA (.object C9) := by
  obtain ⟨comp, c, k, h1, h2, h3, h4, h5⟩ := Cond.arrayOver_spec (args := args) (first := s) (o := none) (s := s) (idx := []) h
  exact ⟨c, fun n z => ⟨(fun k h => by cases h), k, h3, comp, h4⟩, k, comp, h3, h4, h1, h5⟩
set_option maxRecDepth 100000 in
theorem p_kn (hts : ∀ w ∈ lw_tbl, w.before args s = true) : ∀ c, ∃ q : ClassId × (Nat → Nat), c < 13 → u_Kn s (kRn c) (kTn c) (kN c) q.1 q.2 := by
  have hg : ∀ w ∈ lw_g, w.before args s = true := fun w hw => hts w (List.mem_filter.mp hw).1
  intro c
  by_cases hc : c < 13
  · have key : ∃ (cC : ClassId) (iS : Nat → Nat), u_Kn s (kRn c) (kTn c) (kN c) cC iS := by
      match c, hc with
      | 0, _ => exact u_known (n := kN 0) hg ly_0.1 (hts _ (p_tb 72 (by decide +kernel)))
      | 1, _ => exact u_known (n := kN 1) hg ly_1.1 (hts _ (p_tb 156 (by decide +kernel)))
      | 2, _ => exact u_known (n := kN 2) hg ly_2.1 (hts _ (p_tb 1263 (by decide +kernel)))
      | 3, _ => exact u_known (n := kN 3) hg ly_3.1 (hts _ (p_tb 41 (by decide +kernel)))
      | 4, _ => exact u_known (n := kN 4) hg ly_4.1 (hts _ (p_tb 220 (by decide +kernel)))
      | 5, _ => exact u_known (n := kN 5) hg ly_5.1 (hts _ (p_tb 97 (by decide +kernel)))
      | 6, _ => exact u_known (n := kN 6) hg ly_6.1 (hts _ (p_tb 199 (by decide +kernel)))
      | 7, _ => exact u_known (n := kN 7) hg ly_7.1 (hts _ (p_tb 193 (by decide +kernel)))
      | 8, _ => exact u_known (n := kN 8) hg ly_8.1 (hts _ (p_tb 954 (by decide +kernel)))
      | 9, _ => exact u_known (n := kN 9) hg ly_9.1 (hts _ (p_tb 121 (by decide +kernel)))
      | 10, _ => exact u_known (n := kN 10) hg ly_10.1 (hts _ (p_tb 266 (by decide +kernel)))
      | 11, _ => exact u_known (n := kN 11) hg ly_11.1 (hts _ (p_tb 33 (by decide +kernel)))
      | 12, _ => exact u_known (n := kN 12) hg ly_12.1 (hts _ (p_tb 875 (by decide +kernel)))
      | c + 13, h => exact absurd h (by omega)
    obtain ⟨cC, iS, h⟩ := key
    exact ⟨(cC, iS), fun _ => h⟩
  · exact ⟨(0, fun _ => 0), fun h => absurd h hc⟩
def pTm : Nat → Term := fun i => if i = 0 then .string "AccordHouse" 463 else .string "AccordHouse$Kinds" 42
set_option maxRecDepth 100000 in
set_option maxHeartbeats 4000000 in
theorem p_str (hn : ∀ w ∈ flatC (Jvm.Cond.and given_1 narrow_1), w.before args s = true) : ∃ adK adV : Nat → Nat, vk_S 2 [19, 7] [pT0, pT1] adK adV (fun q => s.heap.size ≤ q) s s.heap ∧ ∀ i : Nat, i < 2 → (pTm i).eval args s none [] s = some (.ref (adK i)) := by
  have e0 : ∀ j, j < 19 → (flatC (Jvm.Cond.and given_1 narrow_1))[272 + j]? = some (Cond.eq (.elem (.field (pTm 0) "java/lang/String" "value" "[B") (.int (Int32.ofNat j))) (.int (pT0.getD j 0))) := by decide +kernel
  have e1 : ∀ j, j < 7 → (flatC (Jvm.Cond.and given_1 narrow_1))[328 + j]? = some (Cond.eq (.elem (.field (pTm 1) "java/lang/String" "value" "[B") (.int (Int32.ofNat j))) (.int (pT1.getD j 0))) := by decide +kernel
  have two : ∀ {P : Nat → Prop}, P 0 → P 1 → ∀ i : Nat, i < 2 → P i := fun h0 h1 i hi => by match i, hi with | 0, _ => exact h0 | 1, _ => exact h1 | i + 2, h => exact absurd h (by omega)
  refine vk_Sof (tm := pTm) (by decide) (two (hn _ (p_fl 268 (by decide +kernel))) (hn _ (p_fl 324 (by decide +kernel)))) (two (hn _ (p_fl 269 (by decide +kernel))) (hn _ (p_fl 325 (by decide +kernel)))) (two (hn _ (p_fl 270 (by decide +kernel))) (hn _ (p_fl 326 (by decide +kernel)))) (two (hn _ (p_fl 271 (by decide +kernel))) (hn _ (p_fl 327 (by decide +kernel)))) (two (fun j hj => hn _ (p_fl _ (e0 j hj))) (fun j hj => hn _ (p_fl _ (e1 j hj)))) ?_ (fun a h1 h2 => absurd h1 (Nat.not_lt.mpr h2))
  intro i j hi hj hij
  match i, j, hi, hj with
  | 0, 0, _, _ => exact absurd rfl hij
  | 0, 1, _, _ => exact Or.inl (hn _ (p_fl 335 (by decide +kernel)))
  | 1, 0, _, _ => exact Or.inr (hn _ (p_fl 335 (by decide +kernel)))
  | 1, 1, _, _ => exact absurd rfl hij
  | i + 2, _, h, _ => exact absurd h (by omega)
  | _, j + 2, _, h => exact absurd h (by omega)
set_option maxRecDepth 100000 in
theorem p_uz (hts : ∀ w ∈ lw_tbl, w.before args s = true) (hn : ∀ w ∈ flatC (Jvm.Cond.and given_1 narrow_1), w.before args s = true) : kUz (fun q => s.heap.size ≤ q) s s.heap := by
  have hA : ∀ a : Nat, a < s.heap.size → ¬ s.heap.size ≤ a := fun a h1 h2 => absurd h1 (Nat.not_lt.mpr h2)
  refine ⟨fun w hw => ?_, vx_Zqof (hts _ (p_tb 696 (by decide +kernel))) (hts _ (p_tb 18 (by decide +kernel))) (hn _ (p_fl 9 (by decide +kernel))) hA, vx_Zqof (hts _ (p_tb 698 (by decide +kernel))) (hts _ (p_tb 18 (by decide +kernel))) (hn _ (p_fl 10 (by decide +kernel))) hA, fun q hq => ?_⟩
  · simp only [kXw, List.mem_cons, List.not_mem_nil, or_false] at hw
    rcases hw with rfl | rfl | rfl | rfl | rfl | rfl
    · exact va_Nw.of rfl (hts _ (p_tb 673 (by decide +kernel)))
    · exact va_Nw.of rfl (hts _ (p_tb 675 (by decide +kernel)))
    · exact va_Nw.of rfl (hts _ (p_tb 677 (by decide +kernel)))
    · exact va_Nw.of rfl (hts _ (p_tb 671 (by decide +kernel)))
    · exact va_Nw.of rfl (hts _ (p_tb 1623 (by decide +kernel)))
    · exact va_Nw.of rfl (hts _ (p_tb 1652 (by decide +kernel)))
  · simp only [kLitX, List.mem_cons, List.not_mem_nil, or_false] at hq
    rcases hq with rfl | rfl | rfl | rfl | rfl | rfl | rfl | rfl
    · obtain ⟨a, c, cell, kk, q1, -⟩ := Cond.exactly_spec (args := args) (first := s) (o := none) (s := s) (idx := []) (t := .string "AccordHouse" 96) (cls := "java/lang/String") (hn _ (p_fl 338 (by decide +kernel)))
      exact ⟨a, vk_R.of (hts _ (p_tb 1619 (by decide +kernel))) q1⟩
    · obtain ⟨a, c, cell, kk, q1, -⟩ := Cond.exactly_spec (args := args) (first := s) (o := none) (s := s) (idx := []) (t := .string "AccordHouse" 106) (cls := "java/lang/String") (hn _ (p_fl 365 (by decide +kernel)))
      exact ⟨a, vk_R.of (hts _ (p_tb 1630 (by decide +kernel))) q1⟩
    · obtain ⟨a, c, cell, kk, q1, -⟩ := Cond.exactly_spec (args := args) (first := s) (o := none) (s := s) (idx := []) (t := .string "AccordHouse" 325) (cls := "java/lang/String") (hn _ (p_fl 395 (by decide +kernel)))
      exact ⟨a, vk_R.of (hts _ (p_tb 1659 (by decide +kernel))) q1⟩
    · obtain ⟨a, c, cell, kk, q1, -⟩ := Cond.exactly_spec (args := args) (first := s) (o := none) (s := s) (idx := []) (t := .string "AccordHouse" 328) (cls := "java/lang/String") (hn _ (p_fl 426 (by decide +kernel)))
      exact ⟨a, vk_R.of (hts _ (p_tb 1666 (by decide +kernel))) q1⟩
    · obtain ⟨a, c, cell, kk, q1, -⟩ := Cond.exactly_spec (args := args) (first := s) (o := none) (s := s) (idx := []) (t := .string "AccordHouse" 343) (cls := "java/lang/String") (hn _ (p_fl 450 (by decide +kernel)))
      exact ⟨a, vk_R.of (hts _ (p_tb 1675 (by decide +kernel))) q1⟩
    · obtain ⟨a, c, cell, kk, q1, -⟩ := Cond.exactly_spec (args := args) (first := s) (o := none) (s := s) (idx := []) (t := .string "AccordHouse" 349) (cls := "java/lang/String") (hn _ (p_fl 473 (by decide +kernel)))
      exact ⟨a, vk_R.of (hts _ (p_tb 1676 (by decide +kernel))) q1⟩
    · obtain ⟨a, c, cell, kk, q1, -⟩ := Cond.exactly_spec (args := args) (first := s) (o := none) (s := s) (idx := []) (t := .string "AccordHouse" 364) (cls := "java/lang/String") (hn _ (p_fl 497 (by decide +kernel)))
      exact ⟨a, vk_R.of (hts _ (p_tb 1684 (by decide +kernel))) q1⟩
    · obtain ⟨a, c, cell, kk, q1, -⟩ := Cond.exactly_spec (args := args) (first := s) (o := none) (s := s) (idx := []) (t := .string "AccordHouse" 371) (cls := "java/lang/String") (hn _ (p_fl 539 (by decide +kernel)))
      exact ⟨a, vk_R.of (hts _ (p_tb 1685 (by decide +kernel))) q1⟩
theorem p_nest (hts : ∀ w ∈ lw_tbl, w.before args s = true) : ∀ w ∈ kNest, va_Nw w s := by
  have e : kNest = ([42, 73, 98, 157, 281, 627, 1264] : List Nat).filterMap (fun i => tables_1[i]?) := by decide +kernel
  intro w hw
  have h1 := kNest_on w hw
  rw [e] at hw
  obtain ⟨i, -, hi⟩ := List.mem_filterMap.mp hw
  exact va_Nw.of h1 (hts _ (p_tb i hi))
theorem p_slot {o n d : String} {v : Value} {a i : Nat} {A : Nat → Prop} {cell : Cell} (h : va_OF o n d v a A s s.heap) (hs : SlotIs s o n d i) (hc : s.heap[a]? = some cell) : cell.slots[i]? = some v ∧ cell.vm ≠ .unknown := by
  obtain ⟨cf, k, fi, f, cell', h1, h2, h3, h4, h5, -⟩ := h
  obtain ⟨cf2, kf2, fi2, fd2, g1, g2⟩ := hs
  cases hc.symm.trans h3
  have e9 := Option.some.inj (h1.symm.trans g1)
  have e8 : f = fd2 := congrArg (fun q => q.2.2.2) e9
  rw [← g2, ← e8]
  exact ⟨h5, h4⟩
set_option maxRecDepth 100000 in
set_option maxHeartbeats 4000000 in
theorem p_start (hts : ∀ w ∈ lw_tbl, w.before args s = true) (hn : ∀ w ∈ flatC (Jvm.Cond.and given_1 narrow_1), w.before args s = true) : ∃ (D : cG) (S0 : cSt), cX D s ∧ cW D S0 s.heap ∧ (∀ q, ¬ kWr (kK S0 q)) ∧ pS0 S0 ∧ kZ S0 = s.heap.size := by
  have hA : ∀ a : Nat, a < s.heap.size → ¬ s.heap.size ≤ a := fun a h1 h2 => absurd h1 (Nat.not_lt.mpr h2)
  obtain ⟨kn, hkn⟩ := Classical.axiomOfChoice (p_kn hts)
  obtain ⟨cA20, g20, f20⟩ := p_arr (ty := .int) (hts _ (p_tb 70 (by decide +kernel)))
  obtain ⟨cA21, g21, f21⟩ := p_arr (ty := .byte) (hts _ (p_tb 154 (by decide +kernel)))
  obtain ⟨cA22, g22, f22⟩ := p_arr (ty := .char) (hts _ (p_tb 69 (by decide +kernel)))
  have w30 : (Cond.arrayOver (.object RX8)).before args s = true := (hts _ (p_tb 78 (by decide +kernel)))
  obtain ⟨cA30, g30, f30⟩ := p_aov w30
  have w31 : (Cond.arrayOver (.object RX7)).before args s = true := (hts _ (p_tb 95 (by decide +kernel)))
  obtain ⟨cA31, g31, f31⟩ := p_aov w31
  have w32 : (Cond.arrayOver (.object RX2)).before args s = true := (hts _ (p_tb 103 (by decide +kernel)))
  obtain ⟨cA32, g32, f32⟩ := p_aov w32
  obtain ⟨adK, adV, ⟨hS, hSi⟩, hev⟩ := p_str hn
  obtain ⟨⟨c0, o1, o2, o3, -⟩, o4, o5, ⟨c0b, p1, p2, p3, p4, p5, p6, -⟩⟩ := hS 0 (by decide)
  obtain ⟨⟨c1, r1, r2, r3, -⟩, r4, r5, ⟨c1b, t1, t2, t3, t4, t5, t6, -⟩⟩ := hS 1 (by decide)
  have hcs : (Term.static "java/lang/String" "COMPACT_STRINGS" "Z").eval args s none [] s = some (.int 1) := va_eqt (hn _ (p_fl 4 (by decide +kernel)))
  obtain ⟨cf1, kf1, fi1, ff1, a1, ce1, y1, y2, y3, y4, y5, y6, y7, -⟩ := va_Zof (A := fun q => s.heap.size ≤ q) (hts _ (p_tb 470 (by decide +kernel))) (hts _ (p_tb 13 (by decide +kernel))) hcs hA
  have hsf : ∃ (v : Value) (og : Option Nat), v = va_rf og ∧ va_Z "jdk/internal/util/Preconditions" "SIOOBE_FORMATTER" "Ljava/util/function/BiFunction;" v (fun q => s.heap.size ≤ q) s s.heap := by
    rcases va_Zqof (C := "jdk/internal/util/Preconditions") (n := "SIOOBE_FORMATTER") (d := "Ljava/util/function/BiFunction;") (A := fun q => s.heap.size ≤ q) (hts _ (p_tb 478 (by decide +kernel))) (hts _ (p_tb 16 (by decide +kernel))) (hn _ (p_fl 5 (by decide +kernel))) hA with h | ⟨t, h⟩
    · exact ⟨_, none, rfl, h⟩
    · exact ⟨_, some t, rfl, h⟩
  obtain ⟨sv, og, rfl, cf2, kf2, fi2, ff2, a2, ce2, z1, z2, z3, z4, z5, z6, z7, -⟩ := hsf
  obtain ⟨t0, e_t0⟩ : ∃ q, q = adK 0 := ⟨_, rfl⟩
  obtain ⟨tt1, e_t1⟩ : ∃ q, q = adK 1 := ⟨_, rfl⟩
  obtain ⟨b0, e_b0⟩ : ∃ q, q = adV 0 := ⟨_, rfl⟩
  obtain ⟨b1, e_b1⟩ : ∃ q, q = adV 1 := ⟨_, rfl⟩
  rw [← e_t0] at o1 o4 o5
  rw [← e_b0] at o5 p1
  rw [← e_t1] at r1 r4 r5
  rw [← e_b1] at r5 t1
  have n01 : t0 ≠ tt1 := fun h => absurd (hSi 0 1 (by decide) (by decide) (by rw [← e_t0, ← e_t1]; exact h)) (by decide)
  have hK12 := hkn 12 (by decide)
  obtain ⟨hsl, hfc12, k12, hk12, hki12⟩ := hK12
  have cl0 : c0.cls = (kn 12).1 := Option.some.inj (o3.symm.trans hfc12)
  have cl1 : c1.cls = (kn 12).1 := Option.some.inj (r3.symm.trans hfc12)
  have isS : ∀ {cell : Cell} {cb : Cell} {t b : Nat}, s.heap[t]? = some cell → cell.cls = (kn 12).1 → s.heap[b]? = some cb → s.isArrayOf cb .byte → t ≠ b := by
    intro cell cb t b h1 h2 h3 h4 h5
    subst h5
    cases h1.symm.trans h3
    obtain ⟨-, k, hk, comp, hkk⟩ := h4
    rw [h2] at hk
    cases hk.symm.trans hk12
    rw [hki12] at hkk
    cases hkk
  have nA := isS o1 cl0 p1 p2
  have nB := isS o1 cl0 t1 t2
  have nC := isS r1 cl1 p1 p2
  have nD := isS r1 cl1 t1 t2
  have nE : b0 ≠ b1 := fun h => by
    subst h
    cases p1.symm.trans t1
    rw [p5] at t5
    exact absurd t5 (by decide)
  have nst : ∀ {x : Nat} {cx : Cell} {ax : Nat} {cex : Cell}, s.heap[x]? = some cx → cx.vm.isStatics = false → s.heap[ax]? = some cex → cex.vm.isStatics = true → ax ≠ x := by
    intro x cx ax cex h1 h2 h3 h4 h5
    subst h5
    cases h1.symm.trans h3
    rw [h2] at h4
    cases h4
  have ab0 : c0b.vm.isStatics = false := by cases hh : c0b.vm <;> first | rfl | exact absurd hh (p2.1 _)
  have ab1 : c1b.vm.isStatics = false := by cases hh : c1b.vm <;> first | rfl | exact absurd hh (t2.1 _)
  refine ⟨(fun c => (kn c).1, fun c => (kn c).2, fun k => if k = 20 then cA20 else if k = 21 then cA21 else if k = 22 then cA22 else if k = 23 then c0b.cls else if k = 24 then c1b.cls else if k = 30 then cA30 else if k = 31 then cA31 else cA32, fun q => if q = a1 ∨ q = a2 then s.heap[q]? else none, fun i => if i = 0 then t0 else if i = 1 then tt1 else 0),
    (fun a => if a = t0 ∨ a = tt1 then 13 else if a = b0 ∨ a = b1 then 23 else 0, fun _ _ => 0, fun a k => if k = 0 then (if a = t0 then some b0 else if a = tt1 then some b1 else none) else none, fun a j => if a = b0 then pT0.getD j 0 else if a = b1 then pT1.getD j 0 else 0, fun _ _ => none, fun a => if a = b0 then 19 else if a = b1 then 7 else 0, fun i => if i = 0 then t0 else if i = 1 then tt1 else 0, s.heap.size), ?_, ?_, ?_, ?_, rfl⟩
  · refine ⟨fun c hc => hkn c hc, ⟨g20, f20⟩, ⟨g21, f21⟩, ⟨g22, f22⟩, ⟨g30, f30⟩, ⟨g31, f31⟩, ⟨g32, f32⟩, ⟨va_AO.of w30, va_AO.of w31, va_AO.of w32⟩, p_nest hts, ⟨fun n z => ⟨(fun k h => by cases h), p2.2⟩, fun n z => ⟨(fun k h => by cases h), t2.2⟩⟩, ?_, ?_, ?_⟩
    · exact ⟨cf1, kf1, fi1, ff1, a1, ce1, _, y1, y2, y3, y4, (if_pos (Or.inl rfl)).trans y5, y6, y7, rfl⟩
    · exact ⟨cf2, kf2, fi2, ff2, a2, ce2, _, z1, z2, z3, z4, (if_pos (Or.inr rfl)).trans z5, z6, z7, og, rfl⟩
    · intro q hq
      have ev0 : (Term.string "AccordHouse" 463).eval args s none [] s = some (.ref t0) := by rw [e_t0]; exact hev 0 (by decide)
      have ev1 : (Term.string "AccordHouse$Kinds" 42).eval args s none [] s = some (.ref tt1) := by rw [e_t1]; exact hev 1 (by decide)
      have ev2 : (Term.string "AccordHouse$Draft" 21).eval args s none [] s = some (.ref t0) := by
        obtain ⟨y, q1, q2⟩ := Cond.eq_one (args := args) (first := s) (o := none) (s := s) (idx := []) (a := .string "AccordHouse" 463) (b := .string "AccordHouse$Draft" 21) (hn _ (p_fl 314 (by decide +kernel)))
        rw [q2]; exact q1.symm.trans ev0
      simp only [kLits, List.mem_cons, List.not_mem_nil, or_false] at hq
      rcases hq with rfl | rfl | rfl
      · exact vk_R.of (hts _ (p_tb 460 (by decide +kernel))) ev0
      · exact vk_R.of (hts _ (p_tb 532 (by decide +kernel))) ev2
      · exact vk_R.of (hts _ (p_tb 1571 (by decide +kernel))) ev1
  · have lt : ∀ {x : Nat} {cx : Cell}, s.heap[x]? = some cx → x < s.heap.size := fun h => (Array.getElem?_eq_some_iff.mp h).1
    refine ⟨rfl, fun a ha => ?_, fun a => ?_, fun q cell hq => ?_, fun i => rfl⟩
    · simp only [kK] at ha
      by_cases h1 : a = t0 ∨ a = tt1
      · rcases h1 with rfl | rfl
        · exact lt o1
        · exact lt r1
      · rw [if_neg h1] at ha
        by_cases h2 : a = b0 ∨ a = b1
        · rcases h2 with rfl | rfl
          · exact lt p1
          · exact lt t1
        · rw [if_neg h2] at ha; exact absurd rfl ha
    · refine ⟨fun c hc hl => ?_, fun x y => ?_, fun x => ?_, fun x => ?_⟩
      · exfalso; simp only [kK] at hc; split at hc <;> (try split at hc) <;> omega
      · exfalso; simp only [kK] at x y; split at x <;> (try split at x) <;> simp_all
      · exfalso; simp only [kK] at x; split at x <;> (try split at x) <;> omega
      · by_cases h1 : a = t0 ∨ a = tt1
        · rcases h1 with rfl | rfl
          · refine ⟨c0, o1, o2, (p_slot o4 (hsl 1 (by decide)) o1).2, fun _ => ⟨cl0, fun k hk => ?_⟩, fun h => ?_⟩
            · match k, hk with
              | 0, _ => exact (p_slot o5 (hsl 0 (by decide)) o1).1.trans (by simp [cV, kR, kIsR, kTy, tyJ0, va_rf])
              | 1, _ => exact (p_slot o4 (hsl 1 (by decide)) o1).1.trans (by simp [cV, kF, kIsR, kTy, tyJ0])
              | k + 2, h => exact absurd h (by omega)
            · simp [kK] at h
          · refine ⟨c1, r1, r2, (p_slot r4 (hsl 1 (by decide)) r1).2, fun _ => ⟨cl1, fun k hk => ?_⟩, fun h => ?_⟩
            · match k, hk with
              | 0, _ => exact (p_slot r5 (hsl 0 (by decide)) r1).1.trans (by simp [cV, kR, kIsR, kTy, tyJ0, va_rf, n01.symm])
              | 1, _ => exact (p_slot r4 (hsl 1 (by decide)) r1).1.trans (by simp [cV, kF, kIsR, kTy, tyJ0])
              | k + 2, h => exact absurd h (by omega)
            · simp [kK] at h
        · by_cases h2 : a = b0 ∨ a = b1
          · rcases h2 with rfl | rfl
            · refine ⟨c0b, p1, ab0, p3, fun h => ?_, fun _ => ⟨Or.inl rfl, ⟨by simpa [kL] using p4, by simpa [kL] using p5⟩, fun j hj => ?_⟩⟩
              · simp [kK, h1] at h
              · have hj' : j < 19 := by simpa [kL] using hj
                exact (p6 j hj').trans (by simp [kI])
            · refine ⟨c1b, t1, ab1, t3, fun h => ?_, fun _ => ⟨Or.inr rfl, ⟨by simpa [kL, nE.symm] using t4, by simpa [kL, nE.symm] using t5⟩, fun j hj => ?_⟩⟩
              · simp [kK, h1] at h
              · have hj' : j < 7 := by simpa [kL, nE.symm] using hj
                exact (t6 j hj').trans (by simp [kI, nE.symm])
          · exfalso; simp [kK, h1, h2] at x
    · have hq' : (if q = a1 ∨ q = a2 then s.heap[q]? else none) = some cell := hq
      by_cases h1 : q = a1 ∨ q = a2
      · rw [if_pos h1] at hq'
        refine ⟨hq', ?_⟩
        have hst : cell.vm.isStatics = true := by
          rcases h1 with rfl | rfl
          · cases hq'.symm.trans y5; exact y6
          · cases hq'.symm.trans z5; exact z6
        simp only [kK]
        rw [if_neg (fun h => h.elim (nst o1 o2 hq' hst) (nst r1 r2 hq' hst)), if_neg (fun h => h.elim (nst p1 ab0 hq' hst) (nst t1 ab1 hq' hst))]
      · rw [if_neg h1] at hq'; cases hq'
  · intro q
    simp only [kK, kWr]
    split
    · decide
    · split <;> decide
  · refine ⟨fun a ha => ?_, b0, b1, ?_, ?_⟩
    · have lt : ∀ {x : Nat} {cx : Cell}, s.heap[x]? = some cx → x < s.heap.size := fun h => (Array.getElem?_eq_some_iff.mp h).1
      have ha' : s.heap.size ≤ a := ha
      simp only [kK]
      rw [if_neg (fun h => h.elim (fun h => absurd (lt o1) (by omega)) (fun h => absurd (lt r1) (by omega))), if_neg (fun h => h.elim (fun h => absurd (lt p1) (by omega)) (fun h => absurd (lt t1) (by omega)))]
    · refine ⟨by simp [kK, kT], by simp [kR, kT], rfl, by simp [kK, nA.symm, nC.symm], by simp [kL], fun j hj => by simp [kI]⟩
    · refine ⟨by simp [kK, kT], by simp [kR, kT, n01.symm], rfl, by simp [kK, nB.symm, nD.symm], by simp [kL, nE.symm], fun j hj => by simp [kI, nE.symm]⟩
end PS
