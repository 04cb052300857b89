-- part 14: the class's throws (tkit.lean, by gen14.py)
/-- which exception a method threw: 1, 2, 3; 0: it returned -/
def kEx (tg : Nat) : String := match tg with | 1 => "java/lang/IllegalArgumentException" | 2 => "java/lang/IllegalStateException" | _ => "java/util/NoSuchElementException"
def cZn (S : cSt) (n : Nat) : cSt := (S.1, S.2.1, S.2.2.1, S.2.2.2.1, S.2.2.2.2.1, S.2.2.2.2.2.1, S.2.2.2.2.2.2.1, n)
theorem cW.zn {D : cG} {S : cSt} {H H1 : Heap} (h : cW D S H) (h1 : H.size ≤ H1.size) (h2 : ∀ q : Nat, q < H.size → kK S q ≠ 0 ∨ D.2.2.2.1 q ≠ none → H1[q]? = H[q]?) : cW D (cZn S H1.size) H1 := by
  obtain ⟨e1, e2, e3, e4, e5⟩ := h
  refine ⟨rfl, fun a ha => Nat.lt_of_lt_of_le (e2 a ha) (by rw [← e1]; exact h1), fun a => ?_, fun q cell hq => ?_, e5⟩
  · obtain ⟨k1, k2, k3, k4⟩ := e3 a
    have hk : kK S a ≠ 0 → H1[a]? = H[a]? := fun hk => h2 a (by rw [e1]; exact e2 a hk) (Or.inl hk)
    refine ⟨fun c hc hl => ?_, fun q1 q2 => ?_, fun q1 => ?_, fun q1 => ?_⟩
    · exact (k1 c hc hl).kept (hk (by have hc' : kK S a = c + 1 := hc; omega))
    · have q1' : 20 ≤ kK S a := q1
      rw [hk (by omega)]; exact k2 q1 q2
    · have q1' : 30 ≤ kK S a := q1
      rw [hk (by omega)]; exact k3 q1
    · have q1' : kK S a = 13 ∨ kK S a = 23 := q1
      have h9 : kSx D S H1 a := (k4 q1').kept (hk (by omega))
      exact h9
  · obtain ⟨k1, k2⟩ := e4 q cell hq
    refine ⟨?_, k2⟩
    rw [h2 q (Array.getElem?_eq_some_iff.mp k1).1 (Or.inr (by rw [hq]; exact fun z => by cases z))]; exact k1
def kWt (tg : Nat) (r : Int32) (D : cG) (S S9 : cSt) : Array Value → State → Outcome → State → Prop := fun a st o t => tg = 0 ∧ kW (some (.int r)) D S S9 a st o t
def kXt (tg : Nat) (D : cG) (S S9 : cSt) : String → State → State → Prop := fun E st t =>
  tg ≠ 0 ∧ E = kEx tg ∧ (kZ S9 ≤ t.heap.size ∧ cW D (cZn S9 t.heap.size) t.heap) ∧ (∀ q : Nat, q < kZ S → ¬ kWr (kK S q) → t.heap[q]? = st.heap[q]?) ∧ cGr S S9
def kLitX : List (String × Nat × String) := [("AccordHouse", 96, "the tape is no kind"), ("AccordHouse", 106, "there are eight kinds"), ("AccordHouse", 325, "no such part or value"), ("AccordHouse", 328, "no such value"), ("AccordHouse", 343, "no such map"), ("AccordHouse", 349, "no such key"), ("AccordHouse", 364, "no such part to look back at"), ("AccordHouse", 371, "no such number of rows")]
/-- words of a throw that aren't good ones: they are carried -/
def kXw : List Cond := [.declares (Bundle.initS "java/lang/RuntimeException"), .declares (Bundle.initS "java/lang/Exception"), .declares (Bundle.initS Bundle.tN), .castable (kEx 1) (kEx 1), .castable (kEx 2) (kEx 2), .castable (kEx 3) (kEx 3)]
theorem kXw_on : ∀ w ∈ kXw, w.onTables = true := by decide +kernel
/-- what a throw wants of the start: the two statics of Throwable, the texts -/
def kUz (A : Nat → Prop) (U : State) (H : Heap) : Prop := (∀ w ∈ kXw, va_Nw w U) ∧ vx_Zq Bundle.tN "UNASSIGNED_STACK" Bundle.steD A U H ∧ vx_Zq Bundle.tN "SUPPRESSED_SENTINEL" Bundle.listD A U H ∧ ∀ q ∈ kLitX, ∃ sa, vk_R q.1 q.2.1 q.2.2 sa U
theorem kXw_warm {u U : State} (hW : u.WarmedH U.vm) (h : ∀ w ∈ kXw, va_Nw w u) : ∀ w ∈ kXw, va_Nw w U := fun w hw => by
  have hq := h w hw
  simp only [kXw, List.mem_cons, List.not_mem_nil, or_false] at hw
  rcases hw with rfl | rfl | rfl | rfl | rfl | rfl <;> first | exact va_Nw.warmD hW hq | exact va_Nw.warmC hW hq
theorem kUz.warm {A B : Nat → Prop} {u U : State} {H H1 : Heap} (hW : u.WarmedH U.vm) (h : kUz A u H) (hq : ∀ a : Nat, a < H.size → ¬ A a → H1[a]? = H[a]?) (hAB : ∀ q, B q → A q) : kUz B U H1 :=
  ⟨kXw_warm hW h.1, ((h.2.1.kept hq).narrow hAB).moved hW.alike, ((h.2.2.1.kept hq).narrow hAB).moved hW.alike, fun q hm => by obtain ⟨sa, h9⟩ := h.2.2.2 q hm; exact ⟨sa, h9.warm hW⟩⟩
theorem kUz.same {A : Nat → Prop} {u U : State} {H : Heap} (hv : u.vm = U.vm) (h : kUz A u H) : kUz A U H :=
  ⟨fun w hw => va_Nw.same (kXw_on w hw) hv (h.1 w hw), h.2.1.moved (hv ▸ Vm.Alike.refl u.vm), h.2.2.1.moved (hv ▸ Vm.Alike.refl u.vm), fun q hm => by obtain ⟨sa, h9⟩ := h.2.2.2 q hm; exact ⟨sa, h9.same hv.symm⟩⟩
/-- a word of the tables, or a carried one -/
def kIn (w : Cond) : Prop := w ∈ lw_g ∨ w ∈ kXw
theorem kIn_list (ps : List Nat) {ws : List Cond} (hp : ws = ps.filterMap (fun i => tables_1[i]?)) (hg : ws.all (fun w => goodWord w || decide (w ∈ kXw)) = true) : ∀ w ∈ ws, kIn w := by
  intro w hw
  have h1 := List.all_eq_true.mp hg w hw
  rw [hp] at hw
  obtain ⟨i, -, hi⟩ := List.mem_filterMap.mp hw
  rcases Bool.or_eq_true_iff.mp h1 with h | h
  · exact Or.inl (mt_at i hi h)
  · exact Or.inr (of_decide_eq_true h)
def kPt (As : List Value) (D : cG) (S : cSt) : Array Value → State → Prop := fun v U => v = As.toArray ∧ cW D S U.heap ∧ cX D U ∧ kUz (cA S) U U.heap
theorem kPt.blind {As : List Value} {D : cG} {S : cSt} : FrameBlind (kPt As D S) := fun a U g mk q => ⟨q.1, q.2.1, cX.same (u := U) (U := U.calling g mk a) rfl q.2.2.1, kUz.same (u := U) (U := U.calling g mk a) rfl q.2.2.2⟩
def kTh (l : Launch) (D : cG) (S0 : cSt) (s : State) (c : Code) : Prop := l.stackTraces = false ∧ cW D S0 s.heap ∧ kUz (cA S0) s s.heap ∧ ∀ x ∈ c.exceptionTable.toList, False
section TK
variable {p : Program} {l : Launch} {e : Env} {R : Room} {s : State} {m : MethodId} {args : Array Value} {below : List Frame} {meth : Method} {c : Code} {H : Heap} {locs : List Loc} {cells slots : Nat} {Q : State → Prop}
variable {D : cG} {S S0 : cSt} {own : String} {cc : ByteArray} {nL : Nat} {pc : Nat} {ls : Array Slot} {rest : List Value} {nF nR nC nS : Nat} {ret : Option FieldType}
theorem c_retiT (C : cY p R s m args meth c own cc nL nF nC nS nR (some .int)) {v : Int32} (hJ : cJ D S0 s.heap S H locs) (hdg : decode cc pc = .ok (.ireturn, 1)) : W p l e R s m args below meth c H locs cells slots (vx_MQ below (kWt 0 v D S0 S) (kXt 0 D S0 S) args s cells slots (cA S0)) (F0 m pc ls [.int v]) := by
  have hlocks := C.2.2.2.2.2.2.2
  exact vx_ret (W.iret C.1 C.2.1 C.2.2.2.2.2.2.1 (fun t ht _ => ⟨rfl, c_end hJ ht⟩) hJ.2.2.1 hdg)
theorem cJ.vaS (h0 : cW D S0 s.heap) (hJ : cJ D S0 s.heap S H locs) : va_S (cA S0) s.heap H locs :=
  ⟨by rw [h0.1, hJ.1.1]; exact hJ.2.2.2.1, fun q q1 q2 => hJ.2.1 q (by rw [← h0.1]; exact q1) (fun z => q2 (Or.inl z)), hJ.2.2.1⟩
theorem c_xt {tg : Nat} {t : State} (h0 : tg ≠ 0) (hJ : cJ D S0 s.heap S H locs) (h1 : H.size ≤ t.heap.size) (h2 : ∀ q : Nat, q < H.size → t.heap[q]? = H[q]?) : kXt tg D S0 S (kEx tg) s t :=
  ⟨h0, rfl, ⟨by rw [← hJ.1.1]; exact h1, hJ.1.zn h1 (fun q hq _ => h2 q hq)⟩, fun q q1 q2 => by rw [h2 q (by rw [hJ.1.1]; exact Nat.lt_of_lt_of_le q1 hJ.2.2.2.1)]; exact hJ.2.1 q q1 q2, hJ.2.2.2⟩
theorem c_ot {w : Cond} (h : kIn w) : vx_ot w = true := by
  unfold vx_ot
  rcases h with h | h
  · rw [(List.mem_filter.mp h).2, Bool.or_true]
  · rw [kXw_on w h]; rfl
theorem c_in' {A : Nat → Prop} (hts : ∀ w ∈ lw_g, w.before args s = true) (hU : kUz A s H) {w : Cond} (h : kIn w) : w.before args s = true := by
  rcases h with h | h
  · exact hts w h
  · exact va_Nw.use (kXw_on w h) (hU.1 w h)
theorem c_thrS {text : String} {names : List String} {ik is ic tg : Nat} {r : Int32} (C : cY p R s m args meth c own cc nL nF nC nS nR ret) (Y : kTh l D S0 s c) (hJ : cJ D S0 s.heap S H locs) (hls : ls.size = nL) (htg : tg ≠ 0)
    (hk : Cond.classLink own ik (kEx tg) ∈ lw_g) (hini : Cond.initialized (kEx tg) ∈ lw_g) (hq : (own, is, text) ∈ kLitX) (hat : ∀ w ∈ vx_atS own ic (kEx tg) names, kIn w) (hfit : Bundle.fit (kEx tg) = true) (hnames : ∀ n ∈ names, Bundle.fit n = true)
    (d0 : decode cc pc = .ok (.new ik, 3)) (d3 : decode cc (pc + 3) = .ok (.dup, 1)) (d4 : decode cc (pc + 4) = .ok (.ldc is, 2)) (d6 : decode cc (pc + 6) = .ok (.invokespecial ic, 3)) (d9 : decode cc (pc + 9) = .ok (.athrow, 1))
    (hF : names.length + 3 < nF) (hLo : (13 * (names.length + 1) + 43) ≤ nR) (hce : cells + 1 ≤ nC) (hsl : slots + 6 ≤ nS) : W p l e R s m args below meth c H locs cells slots (vx_MQ below (kWt tg r D S0 S) (kXt tg D S0 S) args s nC nS (cA S0)) (F0 m pc ls []) := by
  obtain ⟨q1, q2, q3, q4⟩ := Y
  obtain ⟨sa, hsa⟩ := q3.2.2.2 _ hq
  have hlocks := C.2.2.2.2.2.2.2
  exact vx_throwS (own := own) (cls := kEx tg) (names := names) (text := text) (ik := ik) (is := is) (ic := ic) (sa := sa) (A := cA S0) C.1 C.2.1 q1 C.2.2.2.1 hfit hnames (C.2.2.2.2.1 _ hk) (C.2.2.2.2.1 _ hini) hsa (fun w hw => c_in' C.2.2.2.2.1 q3 (hat w hw))
    (fun w hw => c_ot (by rcases List.mem_cons.mp hw with rfl | hw; exact Or.inl hk; rcases List.mem_cons.mp hw with rfl | hw; exact Or.inl hini; exact hat w hw)) q3.2.1 q3.2.2.1 (hJ.vaS q2) (hls.trans C.2.2.1.symm) d0 d3 d4 d6 d9 (fun x hx => (q4 x hx).elim)
    (Nat.lt_of_lt_of_le hF C.2.2.2.2.2.1.1) (Nat.le_trans (by simpa using hLo) C.2.2.2.2.2.1.2.2.2) (Nat.le_trans hce C.2.2.2.2.2.1.2.1) (Nat.le_trans hsl C.2.2.2.2.2.1.2.2.1) hlocks (fun t _ h1 h2 => c_xt htg hJ h1 h2) hJ.2.2.1 hce hsl
theorem c_thrN {text Y1 : String} {r1 : List String} {ik is ic tg i0 : Nat} {b0 : ByteArray} (z0 : decode b0 0 = .ok (.aload_n 0, 1)) (z1 : decode b0 1 = .ok (.aload_n 1, 1)) (z2 : decode b0 2 = .ok (.invokespecial i0, 3)) (z5 : decode b0 5 = .ok (.return_, 1)) {r : Int32} (C : cY p R s m args meth c own cc nL nF nC nS nR ret) (Y : kTh l D S0 s c) (hJ : cJ D S0 s.heap S H locs) (hls : ls.size = nL) (htg : tg ≠ 0)
    (hk : Cond.classLink own ik (kEx tg) ∈ lw_g) (hini : Cond.initialized (kEx tg) ∈ lw_g) (hq : (own, is, text) ∈ kLitX) (hat : ∀ w ∈ nx_at own ic (kEx tg) i0 b0 Y1 r1, kIn w) (hfit : Bundle.fit (kEx tg) = true) (hfit1 : Bundle.fit Y1 = true) (hnames : ∀ n ∈ r1, Bundle.fit n = true)
    (d0 : decode cc pc = .ok (.new ik, 3)) (d3 : decode cc (pc + 3) = .ok (.dup, 1)) (d4 : decode cc (pc + 4) = .ok (.ldc_w is, 3)) (d7 : decode cc (pc + 7) = .ok (.invokespecial ic, 3)) (d10 : decode cc (pc + 10) = .ok (.athrow, 1))
    (hF : r1.length + 1 + 3 < nF) (hLo : (13 * (r1.length + 1 + 1) + 43) ≤ nR) (hce : cells + 1 ≤ nC) (hsl : slots + 6 ≤ nS) : W p l e R s m args below meth c H locs cells slots (vx_MQ below (kWt tg r D S0 S) (kXt tg D S0 S) args s nC nS (cA S0)) (F0 m pc ls []) := by
  obtain ⟨q1, q2, q3, q4⟩ := Y
  obtain ⟨sa, hsa⟩ := q3.2.2.2 _ hq
  have hlocks := C.2.2.2.2.2.2.2
  exact nx_throwSW (own := own) (cls := kEx tg) (Yn := Y1) (rn := r1) (text := text) (ik := ik) (is := is) (ic := ic) (sa := sa) (A := cA S0) C.1 C.2.1 q1 z0 z1 z2 z5 C.2.2.2.1 hfit hfit1 hnames (C.2.2.2.2.1 _ hk) (C.2.2.2.2.1 _ hini) hsa (fun w hw => c_in' C.2.2.2.2.1 q3 (hat w hw))
    (fun w hw => c_ot (by rcases List.mem_cons.mp hw with rfl | hw; exact Or.inl hk; rcases List.mem_cons.mp hw with rfl | hw; exact Or.inl hini; exact hat w hw)) q3.2.1 q3.2.2.1 (hJ.vaS q2) (hls.trans C.2.2.1.symm) d0 d3 d4 d7 d10 (fun x hx => (q4 x hx).elim)
    (Nat.lt_of_lt_of_le hF C.2.2.2.2.2.1.1) (Nat.le_trans (by simpa using hLo) C.2.2.2.2.2.1.2.2.2) (Nat.le_trans hce C.2.2.2.2.2.1.2.1) (Nat.le_trans hsl C.2.2.2.2.2.1.2.2.1) hlocks (fun t _ h1 h2 => c_xt htg hJ h1 h2) hJ.2.2.1 hce hsl
end TK
def xz : ByteArray := ⟨#[0x2a, 0x2b, 0xb7, 0x00, 0x0d, 0xb1]⟩
theorem xz_0 : decode xz 0 = .ok (.aload_n 0, 1) := by decide +kernel
theorem xz_1 : decode xz 1 = .ok (.aload_n 1, 1) := by decide +kernel
theorem xz_2 : decode xz 2 = .ok (.invokespecial 13, 3) := by decide +kernel
theorem xz_5 : decode xz 5 = .ok (.return_, 1) := by decide +kernel
theorem xi_1 : Cond.initialized (kEx 1) ∈ lw_g := mt_at 21 (by decide +kernel) rfl
theorem xi_2 : Cond.initialized (kEx 2) ∈ lw_g := mt_at 22 (by decide +kernel) rfl
theorem xi_3 : Cond.initialized (kEx 3) ∈ lw_g := mt_at 31 (by decide +kernel) rfl
theorem xk11_94 : Cond.classLink RX11 94 (kEx 1) ∈ lw_g := mt_at 1618 (by decide +kernel) rfl
set_option maxRecDepth 100000 in
theorem xa11_98 : ∀ w ∈ vx_atS RX11 98 (kEx 1) ["java/lang/RuntimeException", "java/lang/Exception"], kIn w := kIn_list [18, 691, 700, 704, 707, 709, 692, 693, 38, 39, 694, 699, 705, 938, 681, 939, 683, 940, 685, 695, 697, 687, 934, 935, 937, 687, 925, 926, 927, 928, 673, 928, 929, 930, 931, 675, 931, 932, 933, 934, 677, 1620, 670, 671, 678, 679, 680, 682, 684, 686, 690, 689, 688] (by decide +kernel) (by decide +kernel)
theorem xk11_104 : Cond.classLink RX11 104 (kEx 2) ∈ lw_g := mt_at 1621 (by decide +kernel) rfl
set_option maxRecDepth 100000 in
theorem xa11_108 : ∀ w ∈ vx_atS RX11 108 (kEx 2) ["java/lang/RuntimeException", "java/lang/Exception"], kIn w := kIn_list [18, 691, 700, 704, 707, 709, 692, 693, 38, 39, 694, 699, 705, 938, 681, 939, 683, 940, 685, 695, 697, 687, 934, 935, 937, 687, 1632, 1633, 1634, 928, 673, 928, 929, 930, 931, 675, 931, 932, 933, 934, 677, 1631, 1622, 1623, 1624, 702, 1625, 1626, 1627, 1628, 690, 689, 1629] (by decide +kernel) (by decide +kernel)
theorem xk11_323 : Cond.classLink RX11 323 (kEx 3) ∈ lw_g := mt_at 1650 (by decide +kernel) rfl
set_option maxRecDepth 100000 in
theorem xa11_327 : ∀ w ∈ nx_at RX11 327 (kEx 3) 13 xz "java/lang/RuntimeException" ["java/lang/Exception"], kIn w := kIn_list [18, 691, 700, 704, 707, 709, 692, 693, 38, 39, 694, 699, 705, 938, 681, 939, 683, 940, 685, 695, 697, 687, 934, 935, 937, 687, 1661, 1662, 1663, 928, 673, 928, 929, 930, 931, 675, 931, 932, 933, 934, 677, 1660, 1651, 1652, 1653, 703, 1654, 1655, 1656, 1657, 690, 689, 1658] (by decide +kernel) (by decide +kernel)
