/-! part 10: the class's own picture. A state S of it: kinds of cells by address (0: not the class's; 1 + c: an object of class c, 13 a String; 20, 21, 22: int[], byte[], char[]; 23: a String's byte[]; 30, 31, 32: arrays of Row, Node, Frame), fields by address and number, contents by address and place, lengths, the String constants' addresses, and the heap's size. -/
abbrev cSt : Type := (Nat → Nat) × (Nat → Nat → Int32) × (Nat → Nat → Option Nat) × (Nat → Nat → Int32) × (Nat → Nat → Option Nat) × (Nat → Nat) × (Nat → Nat) × Nat
def kK (S : cSt) (a : Nat) : Nat := S.1 a
def kF (S : cSt) (a k : Nat) : Int32 := S.2.1 a k
def kR (S : cSt) (a k : Nat) : Option Nat := S.2.2.1 a k
def kI (S : cSt) (a j : Nat) : Int32 := S.2.2.2.1 a j
def kO (S : cSt) (a j : Nat) : Option Nat := S.2.2.2.2.1 a j
def kL (S : cSt) (a : Nat) : Nat := S.2.2.2.2.2.1 a
def kT (S : cSt) (i : Nat) : Nat := S.2.2.2.2.2.2.1 i
def kZ (S : cSt) : Nat := S.2.2.2.2.2.2.2
def up2 {α : Type} (f : Nat → Nat → α) (a k : Nat) (x : α) : Nat → Nat → α := fun b j => if b = a ∧ j = k then x else f b j
def upr {α : Type} (f : Nat → Nat → α) (a : Nat) (g : Nat → α) : Nat → Nat → α := fun b => if b = a then g else f b
def cPi (S : cSt) (a k : Nat) (x : Int32) : cSt := (S.1, up2 S.2.1 a k x, S.2.2)
def cPr (S : cSt) (a k : Nat) (o : Option Nat) : cSt := (S.1, S.2.1, up2 S.2.2.1 a k o, S.2.2.2)
def cWi (S : cSt) (a i : Nat) (x : Int32) : cSt := (S.1, S.2.1, S.2.2.1, up2 S.2.2.2.1 a i x, S.2.2.2.2)
def cWo (S : cSt) (a i : Nat) (o : Option Nat) : cSt := (S.1, S.2.1, S.2.2.1, S.2.2.2.1, up2 S.2.2.2.2.1 a i o, S.2.2.2.2.2)
def cCp (S : cSt) (a sp b dp n : Nat) : cSt := (S.1, S.2.1, S.2.2.1, upr S.2.2.2.1 b (va_cpy (S.2.2.2.1 a) (S.2.2.2.1 b) sp dp n), S.2.2.2.2)
def cNw (S : cSt) (kd n : Nat) : cSt := (va_up S.1 (kZ S) kd, upr S.2.1 (kZ S) (fun _ => 0), upr S.2.2.1 (kZ S) (fun _ => none), upr S.2.2.2.1 (kZ S) (fun _ => 0), upr S.2.2.2.2.1 (kZ S) (fun _ => none), va_up S.2.2.2.2.2.1 (kZ S) n, S.2.2.2.2.2.2.1, kZ S + 1)
def kN : Nat → Nat := fun c => match c with
  | 0 => 4
  | 1 => 6
  | 2 => 11
  | 3 => 6
  | 4 => 9
  | 5 => 4
  | 6 => 4
  | 7 => 17
  | 8 => 14
  | 9 => 8
  | 10 => 9
  | 11 => 10
  | _ => 4
def kRn : Nat → String := fun c => match c with
  | 0 => RX0
  | 1 => RX1
  | 2 => RX2
  | 3 => RX3
  | 4 => RX4
  | 5 => RX5
  | 6 => RX6
  | 7 => RX7
  | 8 => RX8
  | 9 => RX9
  | 10 => RX10
  | 11 => RX11
  | _ => RJ0
def kTn : Nat → u_T := fun c => match c with
  | 0 => TX0
  | 1 => TX1
  | 2 => TX2
  | 3 => TX3
  | 4 => TX4
  | 5 => TX5
  | 6 => TX6
  | 7 => TX7
  | 8 => TX8
  | 9 => TX9
  | 10 => TX10
  | 11 => TX11
  | _ => TJ0
def kTy : Nat → Nat → FieldType := fun c => match c with
  | 0 => tyX0
  | 1 => tyX1
  | 2 => tyX2
  | 3 => tyX3
  | 4 => tyX4
  | 5 => tyX5
  | 6 => tyX6
  | 7 => tyX7
  | 8 => tyX8
  | 9 => tyX9
  | 10 => tyX10
  | 11 => tyX11
  | _ => tyJ0
/-- String constants of the class: its class, place in the pool, text, number -/
def kLits : List (String × Nat × String × Nat) := [("AccordHouse", 463, " LSCBBBAATT    MM  ", 0), ("AccordHouse$Draft", 21, " LSCBBBAATT    MM  ", 0), ("AccordHouse$Kinds", 42, "LSCBATM", 1)]
/-- the links to private members of nest mates -/
def kNest : List Cond := [.methodLinkNest "AccordHouse" 11 ⟨"AccordHouse$Kinds", "<init>", "()V"⟩ "AccordHouse", .methodLinkNest "AccordHouse" 18 ⟨"AccordHouse$Book", "<init>", "()V"⟩ "AccordHouse", .methodLinkNest "AccordHouse" 31 ⟨"AccordHouse$Line", "<init>", "()V"⟩ "AccordHouse", .methodLinkNest "AccordHouse" 47 ⟨"AccordHouse$Draft", "<init>", "()V"⟩ "AccordHouse", .fieldLinkNest "AccordHouse$Text" 43 "AccordHouse$View" "ledger" "LAccordHouse$Ledger;" "AccordHouse", .methodLinkNest "AccordHouse$View" 146 ⟨"AccordHouse", "isKey", "(I)Z"⟩ "AccordHouse", .methodLinkNest "AccordHouse$Line" 27 ⟨"AccordHouse$Frame", "<init>", "()V"⟩ "AccordHouse"]
def kIsR : FieldType → Bool
  | .object _ => true
  | .array _ => true
  | _ => false
def cV (S : cSt) (a c k : Nat) : Value := if kIsR (kTy c k) = true then va_rf (kR S a k) else .int (kF S a k)
abbrev cG : Type := (Nat → ClassId) × (Nat → Nat → Nat) × (Nat → ClassId) × (Nat → Option Cell) × (Nat → Nat)
/-- a String, or a String's bytes: cells of the JDK's, of which no more is known than what is said here -/
def kSx (D : cG) (S : cSt) (H : Heap) (a : Nat) : Prop := ∃ cell : Cell, H[a]? = some cell ∧ cell.vm.isStatics = false ∧ cell.vm ≠ .unknown ∧
  (kK S a = 13 → cell.cls = D.1 12 ∧ ∀ k, k < 2 → cell.slots[D.2.1 12 k]? = some (cV S a 12 k)) ∧ (kK S a = 23 → (cell.cls = D.2.2.1 23 ∨ cell.cls = D.2.2.1 24) ∧ (kL S a ≤ cell.slots.size ∧ cell.slots.size.toInt32 = Int32.ofNat (kL S a)) ∧ ∀ j, j < kL S a → cell.slots[j]? = some (.int (kI S a j)))
def kAt (D : cG) (S : cSt) (H : Heap) (a : Nat) : Prop :=
  (∀ c, kK S a = c + 1 → c < 12 → t_OB a (D.1 c) (kN c) (D.2.1 c) H (cV S a c)) ∧
  (20 ≤ kK S a → kK S a < 23 → H[a]? = some (arrV (D.2.2.1 (kK S a)) (kL S a) (fun j => .int (kI S a j)))) ∧
  (30 ≤ kK S a → H[a]? = some (arrV (D.2.2.1 (kK S a)) (kL S a) (fun j => va_rf (kO S a j)))) ∧
  (kK S a = 13 ∨ kK S a = 23 → kSx D S H a)
theorem kSx.kept {D : cG} {S : cSt} {H H1 : Heap} {a : Nat} (h : kSx D S H a) (e : H1[a]? = H[a]?) : kSx D S H1 a := by
  obtain ⟨cell, q1, q2⟩ := h
  exact ⟨cell, by rw [e]; exact q1, q2⟩
theorem kSx.to {D : cG} {S S1 : cSt} {H : Heap} {a : Nat} (h : kSx D S H a) (hk : kK S1 a = kK S a) (hv : ∀ k, cV S1 a 12 k = cV S a 12 k) (hl : kL S1 a = kL S a) (hi : ∀ j, kI S1 a j = kI S a j) : kSx D S1 H a := by
  obtain ⟨cell, q1, q2, q3, q4, q5⟩ := h
  refine ⟨cell, q1, q2, q3, fun x => ?_, fun x => ?_⟩
  · rw [hk] at x
    exact ⟨(q4 x).1, fun k hk2 => by rw [hv k]; exact (q4 x).2 k hk2⟩
  · rw [hk] at x
    refine ⟨(q5 x).1, by rw [hl]; exact (q5 x).2.1, fun j hj => ?_⟩
    rw [hl] at hj
    rw [hi j]; exact (q5 x).2.2 j hj
/-- the heap holds the class's cells in the state S -/
def cW (D : cG) (S : cSt) (H : Heap) : Prop := H.size = kZ S ∧ (∀ a, kK S a ≠ 0 → a < kZ S) ∧ (∀ a, kAt D S H a) ∧ (∀ q cell, D.2.2.2.1 q = some cell → H[q]? = some cell ∧ kK S q = 0) ∧ ∀ i, kT S i = D.2.2.2.2 i
def kAr (D : cG) (U : State) (k : Nat) (ty : FieldType) : Prop := ArrOfT U (D.2.2.1 k) ty ∧ va_RA U (D.2.2.1 k) ty
theorem kAr.moved {D : cG} {u U : State} {k : Nat} {ty : FieldType} (hvm : u.vm.Alike U.vm) (h : kAr D u k ty) : kAr D U k ty := ⟨arrOfT_moved hvm h.1, h.2.moved hvm⟩
/-- a static that nobody writes, in a cell that isn't the class's -/
def kSt (D : cG) (U : State) (C n d : String) (P : Value → Prop) : Prop := ∃ (cf : ClassId) (kf : Class) (fi : Nat) (f : Field) (a : Nat) (cell : Cell) (v : Value), U.fieldFound? C n d = some (cf, kf, fi, f) ∧ f.isStatic = true ∧ kf.init = .initialized ∧ kf.statics = some a ∧ D.2.2.2.1 a = some cell ∧ cell.vm.isStatics = true ∧ cell.slots[f.slot]? = some v ∧ P v
theorem kSt.moved {D : cG} {C n d : String} {P : Value → Prop} {u U : State} (hvm : u.vm.Alike U.vm) (h : kSt D u C n d P) : kSt D U C n d P := by
  obtain ⟨cf, kf, fi, f, a, cell, v, h1, h2, h3, h4, h5⟩ := h
  obtain ⟨k', hi', he⟩ := State.fieldFound?_setVm hvm h1
  exact ⟨cf, k', fi, f, a, cell, v, hi', h2, by rw [he]; exact h3, by rw [he]; exact h4, h5⟩
def cX (D : cG) (U : State) : Prop := (∀ c, c < 13 → u_Kn U (kRn c) (kTn c) (kN c) (D.1 c) (D.2.1 c)) ∧ kAr D U 20 .int ∧ kAr D U 21 .byte ∧ kAr D U 22 .char ∧ kAr D U 30 (.object RX8) ∧ kAr D U 31 (.object RX7) ∧ kAr D U 32 (.object RX2) ∧ (va_AO RX8 U ∧ va_AO RX7 U ∧ va_AO RX2 U) ∧ (∀ w ∈ kNest, va_Nw w U) ∧ (ArrOfT U (D.2.2.1 23) .byte ∧ ArrOfT U (D.2.2.1 24) .byte) ∧ kSt D U "java/lang/String" "COMPACT_STRINGS" "Z" (fun v => v = .int 1) ∧ kSt D U "jdk/internal/util/Preconditions" "SIOOBE_FORMATTER" "Ljava/util/function/BiFunction;" (fun v => ∃ o : Option Nat, v = va_rf o) ∧ ∀ q ∈ kLits, vk_R q.1 q.2.1 q.2.2.1 (D.2.2.2.2 q.2.2.2) U
theorem cX.go {D : cG} {u U : State} (hvm : u.vm.Alike U.vm) (hn : (∀ w ∈ kNest, va_Nw w u) → ∀ w ∈ kNest, va_Nw w U) (hr : (∀ q ∈ kLits, vk_R q.1 q.2.1 q.2.2.1 (D.2.2.2.2 q.2.2.2) u) → ∀ q ∈ kLits, vk_R q.1 q.2.1 q.2.2.1 (D.2.2.2.2 q.2.2.2) U) (h : cX D u) : cX D U := by
  obtain ⟨h1, h2, h3, h4, h5, h6, h7, ⟨h8, h9, h10⟩, h11, h12, h13, h14, h15⟩ := h
  exact ⟨fun c hc => u_Kn_moved hvm (h1 c hc), h2.moved hvm, h3.moved hvm, h4.moved hvm, h5.moved hvm, h6.moved hvm, h7.moved hvm, ⟨h8.moved hvm, h9.moved hvm, h10.moved hvm⟩, hn h11, ⟨arrOfT_moved hvm h12.1, arrOfT_moved hvm h12.2⟩, h13.moved hvm, h14.moved hvm, hr h15⟩
theorem cX.warm {D : cG} {u U : State} (hW : u.WarmedH U.vm) (h : cX D u) : cX D U := h.go hW.alike (fun q w hw => by
  have hq := q w hw
  simp only [kNest, List.mem_cons, List.not_mem_nil, or_false] at hw
  rcases hw with rfl | rfl | rfl | rfl | rfl | rfl | rfl <;> first | exact va_Nw.warmM hW hq | exact va_Nw.warmF hW hq) (fun q w hw => (q w hw).warm hW)
theorem kNest_on : ∀ w ∈ kNest, w.onTables = true := by decide +kernel
theorem cX.same {D : cG} {u U : State} (hv : u.vm = U.vm) (h : cX D u) : cX D U := h.go (hv ▸ Vm.Alike.refl u.vm) (fun q w hw => va_Nw.same (kNest_on w hw) hv (q w hw)) (fun q w hw => (q w hw).same hv.symm)
theorem cX.nest {D : cG} {U : State} (h : cX D U) {w : Cond} (hw : w ∈ kNest) {A : Array Value} : w.before A U = true := va_Nw.use (kNest_on w hw) (h.2.2.2.2.2.2.2.2.1 w hw)
/-- what the class may write: not Strings and their bytes -/
def kWr (k : Nat) : Prop := k ≠ 0 ∧ k ≠ 13 ∧ k ≠ 23
theorem kWr.ne {k : Nat} (h : kWr k) : k ≠ 0 := h.1
def cGr (S0 S : cSt) : Prop := kZ S0 ≤ kZ S ∧ ∀ a, a < kZ S0 → kK S a = kK S0 a
theorem cGr.rf {S : cSt} : cGr S S := ⟨Nat.le_refl _, fun _ _ => rfl⟩
theorem cGr.tr {S0 S1 S2 : cSt} (h : cGr S0 S1) (h2 : cGr S1 S2) : cGr S0 S2 := ⟨Nat.le_trans h.1 h2.1, fun a ha => (h2.2 a (Nat.lt_of_lt_of_le ha h.1)).trans (h.2 a ha)⟩
/-- what may be written from a start at S0: its cells, and new ones -/
def cA (S0 : cSt) : Nat → Prop := fun q => kWr (kK S0 q) ∨ kZ S0 ≤ q
/-- in the midst of a method that began at S0 with heap H0 -/
def cJ (D : cG) (S0 : cSt) (H0 : Heap) (S : cSt) (H : Heap) (locs : List Loc) : Prop :=
  cW D S H ∧ (∀ q : Nat, q < kZ S0 → ¬ kWr (kK S0 q) → H[q]? = H0[q]?) ∧ (∀ l ∈ locs, cA S0 l.base) ∧ cGr S0 S
theorem cJ.rf {D : cG} {S : cSt} {H : Heap} (h : cW D S H) : cJ D S H S H [] := ⟨h, fun _ _ _ => rfl, fun _ h => (by cases h), cGr.rf⟩
theorem cJ.in {D : cG} {S0 S : cSt} {H0 H : Heap} {locs : List Loc} (h : cJ D S0 H0 S H locs) {a : Nat} (ha : kWr (kK S a)) : cA S0 a := by
  by_cases hz : kZ S0 ≤ a
  · exact Or.inr hz
  · exact Or.inl (by rw [← h.2.2.2.2 a (Nat.not_le.mp hz)]; exact ha)
/-- a write to one cell of ours -/
theorem cJ.put {D : cG} {S0 S S1 : cSt} {H0 H H1 : Heap} {locs : List Loc} {a k : Nat} (h : cJ D S0 H0 S H locs) (ha : kWr (kK S a)) (hK : S1.1 = S.1) (hZ : S1.2.2.2.2.2.2 = S.2.2.2.2.2.2) (z : H1.size = H.size) (oq : ∀ q : Nat, q ≠ a → H1[q]? = H[q]?) (hat : kAt D S1 H1 a)
    (hq : ∀ q : Nat, q ≠ a → kAt D S H q → kAt D S1 H q) : cJ D S0 H0 S1 H1 (locs ++ [⟨a, k⟩]) := by
  have hin := h.in ha
  obtain ⟨⟨w1, w2, w3, w4, w5⟩, f1, f2, g1, g2⟩ := h
  have hk : ∀ q, kK S1 q = kK S q := fun q => by unfold kK; rw [hK]
  have hZ2 : kZ S1 = kZ S := by unfold kZ; rw [hZ]
  refine ⟨⟨by rw [z, w1, hZ2], fun q hq => by rw [hZ2]; exact w2 q (by rw [← hk q]; exact hq), fun q => ?_, fun q cell hc => ?_, fun i => by unfold kT; rw [hZ]; exact w5 i⟩, fun q q1 q2 => ?_, fun q hq => ?_, by rw [hZ2]; exact g1, fun q hq => (hk q).trans (g2 q hq)⟩
  · by_cases hqa : q = a
    · rw [hqa]; exact hat
    · obtain ⟨r1, r2, r3, r4⟩ := hq q hqa (w3 q)
      have e := oq q hqa
      exact ⟨fun c hc hl => (r1 c hc hl).kept e, fun x y => by rw [e]; exact r2 x y, fun x => by rw [e]; exact r3 x, fun x => (r4 x).kept e⟩
  · obtain ⟨h1, h2⟩ := w4 q cell hc
    rw [oq q (fun e => ha.1 (e ▸ h2)), hk q]
    exact ⟨h1, h2⟩
  · rw [oq q (fun e => ?_)]
    · exact f1 q q1 q2
    · rcases hin with h | h
      · exact q2 (e ▸ h)
      · exact absurd (e ▸ q1) (Nat.not_lt.mpr h)
  · rcases List.mem_append.mp hq with h | h
    · exact f2 q h
    · rw [List.mem_singleton.mp h]; exact hin
/-- a new cell -/
theorem cJ.push {D : cG} {S0 S : cSt} {H0 H H1 : Heap} {locs : List Loc} {kd n : Nat} (h : cJ D S0 H0 S H locs) (hkd : kd ≠ 0) (z : H1.size = kZ S + 1) (oq : ∀ q : Nat, q < kZ S → H1[q]? = H[q]?) (hat : kAt D (cNw S kd n) H1 (kZ S)) : cJ D S0 H0 (cNw S kd n) H1 locs := by
  obtain ⟨⟨w1, w2, w3, w4, w5⟩, f1, f2, g1, g2⟩ := h
  have hz0 : kK S (kZ S) = 0 := by
    by_cases q : kK S (kZ S) = 0
    · exact q
    · exact absurd (w2 _ q) (Nat.lt_irrefl _)
  have kne : ∀ q, q ≠ kZ S → kK (cNw S kd n) q = kK S q := fun q hq => by simp [kK, cNw, va_up, hq]
  refine ⟨⟨z, fun q hq => ?_, fun q => ?_, fun q cell hc => ?_, w5⟩, fun q q1 q2 => ?_, f2, Nat.le_trans g1 (Nat.le_succ _), fun q hq => ?_⟩
  · by_cases e : q = kZ S
    · rw [e]; exact Nat.lt_succ_self _
    · exact Nat.lt_succ_of_lt (w2 q (by rw [← kne q e]; exact hq))
  · by_cases e : q = kZ S
    · rw [e]; exact hat
    · obtain ⟨r1, r2, r3, r4⟩ := w3 q
      by_cases hk0 : kK S q = 0
      · refine ⟨fun c hc hl => ?_, fun x y => ?_, fun x => ?_, fun x => by rw [kne q e, hk0] at x; exact absurd x (by decide)⟩
        · rw [kne q e, hk0] at hc; cases hc
        · rw [kne q e, hk0] at x; exact absurd x (by decide)
        · rw [kne q e, hk0] at x; exact absurd x (by decide)
      · have eq := oq q (w2 q hk0)
        refine ⟨fun c hc hl => ?_, fun x y => ?_, fun x => ?_, fun x => by rw [kne q e] at x; exact ((r4 x).kept eq).to (kne q e) (fun k => by simp [cV, kR, kF, cNw, upr, e]) (by simp [kL, cNw, va_up, e]) (fun j => by simp [kI, cNw, upr, e])⟩
        · rw [kne q e] at hc
          exact ((r1 c hc hl).kept eq).to (fun j _ => by simp [cV, kR, kF, cNw, upr, e])
        · rw [kne q e] at x y ⊢
          rw [eq, r2 x y]
          simp [kL, kI, cNw, upr, va_up, e]
        · rw [kne q e] at x ⊢
          rw [eq, r3 x]
          simp [kL, kO, cNw, upr, va_up, e]
  · obtain ⟨h1, h2⟩ := w4 q cell hc
    have hlt : q < kZ S := by rw [← w1]; exact (Array.getElem?_eq_some_iff.mp h1).1
    rw [oq q hlt, kne q (Nat.ne_of_lt hlt)]
    exact ⟨h1, h2⟩
  · rw [oq q (Nat.lt_of_lt_of_le q1 g1)]; exact f1 q q1 q2
  · rw [kne q (Nat.ne_of_lt (Nat.lt_of_lt_of_le hq g1))]; exact g2 q hq
def ckk {α : Type} (S : cSt) (a kd : Nat) (K : Option α) : Option α := if kK S a = kd then K else none
theorem ckk_ok {α : Type} {S : cSt} {a kd : Nat} {K : Option α} {r : α} (h : ckk S a kd K = some r) : kK S a = kd ∧ K = some r := by
  unfold ckk at h
  split at h
  · rename_i hn; exact ⟨hn, h⟩
  · cases h
def ckp {α : Type} (c : Prop) [Decidable c] (K : Option α) : Option α := if c then K else none
theorem ckp_ok {α : Type} {c : Prop} {d : Decidable c} {K : Option α} {r : α} (h : ckp c K = some r) : c ∧ K = some r := by
  unfold ckp at h
  split at h
  · rename_i hn; exact ⟨hn, h⟩
  · cases h
section CK
variable {p : Program} {l : Launch} {e : Env} {R : Room} {s : State} {m : MethodId} {args : Array Value} {below : List Frame} {meth : Method} {c : Code} {H : Heap} {locs : List Loc} {cells slots : Nat} {Q : State → Prop}
variable {D : cG} {S S0 : cSt} {own : String} {cc : ByteArray} {nL : Nat} {pc : Nat} {ls : Array Slot} {rest : List Value} {H0 : Heap} {nF nR nC nS : Nat} {ret : Option FieldType} {a k index ci : Nat}
/-- what holds all through a method of the class own: nF, nC, nS, nR: frames, cells, slots and locals' words that are left -/
def cY (p : Program) (R : Room) (s : State) (m : MethodId) (args : Array Value) (meth : Method) (c : Code) (own : String) (cc : ByteArray) (nL nF nC nS nR : Nat) (ret : Option FieldType) : Prop :=
  p.tables.exec = Jvm.exec ∧ c.code = cc ∧ c.maxLocals = nL ∧ s.vm.findClass own = some m.cls ∧ (∀ w ∈ lw_g, w.before args s = true) ∧ (nF ≤ R.frames ∧ nC ≤ R.cells ∧ nS ≤ R.slots ∧ nR ≤ R.locals) ∧ meth.sig.returnType = ret ∧ meth.locks = false
/-- a class's words: its fields' places -/
def cLy (ci : Nat) : Prop := (∀ w ∈ u_ws (kRn ci) (kTn ci) (kN ci), w ∈ lw_g) ∧ (∀ k, k < kN ci → parseFieldDescriptor (kTn ci k).2.2.1 = some (kTy ci k)) ∧ ∀ a, a < kN ci → ∀ b, b < kN ci → a ≠ b → (kTn ci a).2.1 ≠ (kTn ci b).2.1
theorem cW.obj (hW : cW D S H) (hc : ci < 12) (hk : kK S a = ci + 1) : t_OB a (D.1 ci) (kN ci) (D.2.1 ci) H (cV S a ci) := (hW.2.2.1 a).1 ci hk hc
/-- how many fields of a class are in the picture -/
def kF2 (c : Nat) : Nat := if c = 12 then 2 else kN c
theorem kF2_le {c k : Nat} (h : k < kF2 c) : k < kN c := by
  unfold kF2 at h
  split at h
  · rename_i hc; subst hc; exact Nat.lt_trans h (by decide)
  · exact h
theorem cW.fld (hW : cW D S H) (hc : ci < 13) (hk : kK S a = ci + 1) {k : Nat} (hk2 : k < kF2 ci) : ∃ cell : Cell, H[a]? = some cell ∧ cell.cls = D.1 ci ∧ cell.vm.isStatics = false ∧ cell.vm ≠ .unknown ∧ cell.slots[D.2.1 ci k]? = some (cV S a ci k) := by
  by_cases h12 : ci = 12
  · subst h12
    obtain ⟨cell, q1, q2, q3, q4, -⟩ := (hW.2.2.1 a).2.2.2 (Or.inl hk)
    exact ⟨cell, q1, (q4 hk).1, q2, q3, (q4 hk).2 k hk2⟩
  · obtain ⟨cell, q1, q2, q3, q4⟩ := hW.obj (by omega) hk
    exact ⟨cell, q1, q2, by rw [q3]; rfl, (by rw [q3]; intro h; cases h), q4 k (kF2_le hk2)⟩
theorem c_get (C : cY p R s m args meth c own cc nL nF nC nS nR ret) (X : cX D s) (hW : cW D S H) (ci : Nat) (hc : ci < 13) (hy : cLy ci) (hk : kK S a = ci + 1) (k : Nat) (hk2 : k < kF2 ci) {index : Nat} (hl : Cond.fieldLink own index (kTn ci k).1 (kTn ci k).2.1 (kTn ci k).2.2.1 ∈ lw_g) (hdg : decode cc pc = .ok (.getfield index, 3))
    (kk : W p l e R s m args below meth c H locs cells slots Q (F0 m (pc + 3) ls (cV S a ci k :: rest))) : W p l e R s m args below meth c H locs cells slots Q (F0 m pc ls (.ref a :: rest)) := by
  obtain ⟨hx, hb, -, hown, hts, -⟩ := C
  obtain ⟨hS, hfc, kC, hkC, hkind⟩ := X.1 ci hc
  have hkN := kF2_le hk2
  obtain ⟨cell, q1, -, -, q3, q4⟩ := hW.fld hc hk hk2
  obtain ⟨cf, kf, fi, f, hi, hsl⟩ := hS k hkN
  refine W.getf hx hb hown (hts _ hl) hi (u_facts hfc hkC (u_lays hts hy.1 hkN) hi).1 q1 q3 (v := cV S a ci k) ?_ rfl rfl hdg kk
  rw [hsl, q4]
theorem c_getN {host : String} (C : cY p R s m args meth c own cc nL nF nC nS nR ret) (X : cX D s) (hW : cW D S H) (ci : Nat) (hc : ci < 13) (hy : cLy ci) (hk : kK S a = ci + 1) (k : Nat) (hk2 : k < kF2 ci) {index : Nat} (hl : Cond.fieldLinkNest own index (kTn ci k).1 (kTn ci k).2.1 (kTn ci k).2.2.1 host ∈ kNest) (hdg : decode cc pc = .ok (.getfield index, 3))
    (kk : W p l e R s m args below meth c H locs cells slots Q (F0 m (pc + 3) ls (cV S a ci k :: rest))) : W p l e R s m args below meth c H locs cells slots Q (F0 m pc ls (.ref a :: rest)) := by
  obtain ⟨hx, hb, -, hown, hts, -⟩ := C
  have hlk := X.nest (A := args) hl
  obtain ⟨hS, hfc, kC, hkC, hkind⟩ := X.1 ci hc
  have hkN := kF2_le hk2
  obtain ⟨cell, q1, -, -, q3, q4⟩ := hW.fld hc hk hk2
  obtain ⟨cf, kf, fi, f, hi, hsl⟩ := hS k hkN
  refine va_Wgetf hx hb hown hlk hi (u_facts hfc hkC (u_lays hts hy.1 hkN) hi).1 q1 q3 (v := cV S a ci k) ?_ rfl rfl hdg kk
  rw [hsl, q4]
theorem c_apart (hts : ∀ w ∈ lw_g, w.before args s = true) (X : cX D s) (hc : ci < 13) (hy : cLy ci) : ∀ x y, x < kN ci → y < kN ci → x ≠ y → D.2.1 ci x ≠ D.2.1 ci y := by
  obtain ⟨hS, -⟩ := X.1 ci hc
  intro x y hx hy2 hne
  obtain ⟨_, _, _, fa, hia, ea⟩ := hS x hx
  obtain ⟨_, _, _, fb, hib, eb⟩ := hS y hy2
  rw [← ea, ← eb]
  refine u_apart (u_lays hts hy.1 hx) (u_lays hts hy.1 hy2) hia hib ?_
  rw [(State.fieldFound?_type hia (hy.2.1 x hx)).1, (State.fieldFound?_type hib (hy.2.1 y hy2)).1]
  exact hy.2.2 x hx y hy2 hne
/-- the picture behind a write of field k -/
theorem c_putAt {H1 : Heap} {S1 : cSt} {v : Value} (hc : ci < 12) (hk : kK S a = ci + 1) (hK : S1.1 = S.1) (ho : t_OB a (D.1 ci) (kN ci) (D.2.1 ci) H1 (updV (cV S a ci) k v)) (hv : ∀ j, j < kN ci → updV (cV S a ci) k v j = cV S1 a ci j) : kAt D S1 H1 a := by
  have hk1 : kK S1 a = ci + 1 := by unfold kK; rw [hK]; exact hk
  refine ⟨fun c' hc' hl => ?_, fun x y => ?_, fun x => ?_, fun x => ?_⟩
  · have : c' = ci := by omega
    subst this
    exact ho.to hv
  · omega
  · omega
  · omega
theorem c_oth {H : Heap} {S1 : cSt} (hK : S1.1 = S.1) (hL : S1.2.2.2.2.2.1 = S.2.2.2.2.2.1) {q : Nat} (h1 : S1.2.1 q = S.2.1 q) (h2 : S1.2.2.1 q = S.2.2.1 q) (h3 : S1.2.2.2.1 q = S.2.2.2.1 q) (h4 : S1.2.2.2.2.1 q = S.2.2.2.2.1 q) (h : kAt D S H q) : kAt D S1 H q := by
  have hk1 : kK S1 q = kK S q := by unfold kK; rw [hK]
  have hl1 : kL S1 q = kL S q := by unfold kL; rw [hL]
  obtain ⟨r1, r2, r3, r4⟩ := h
  refine ⟨fun c' hc' hl => ?_, fun x y => ?_, fun x => ?_, fun x => by rw [hk1] at x; exact (r4 x).to hk1 (fun k => by unfold cV kR kF; rw [h1, h2]) hl1 (fun j => by unfold kI; rw [h3])⟩
  · rw [hk1] at hc'
    exact (r1 c' hc' hl).to (fun j _ => by unfold cV kR kF; rw [h1, h2])
  · rw [hk1] at x y ⊢
    rw [r2 x y, hl1]; unfold kI; rw [h3]
  · rw [hk1] at x ⊢
    rw [r3 x, hl1]; unfold kO; rw [h4]
/-- a field is written: v beside the state S1 behind it -/
theorem c_put (C : cY p R s m args meth c own cc nL nF nC nS nR ret) (X : cX D s) (hJ : cJ D S0 H0 S H locs) (ci : Nat) (hc : ci < 13) (hy : cLy ci) (hk : kK S a = ci + 1) (k : Nat) (hkN : k < kN ci) (hfin : (kTn ci k).2.2.2 = false) {v : Value} {S1 : cSt} (hn : narrow (kTy ci k) v = v) (hfit : fits (kTy ci k) v = true) (hc2 : ci < 12) (hK : S1.1 = S.1) (hZ : S1.2.2.2.2.2.2 = S.2.2.2.2.2.2) (hv : ∀ j, j < kN ci → updV (cV S a ci) k v j = cV S1 a ci j)
    (hq : ∀ (q : Nat), q ≠ a → kAt D S H q → kAt D S1 H q) {index : Nat} (hl : Cond.fieldLink own index (kTn ci k).1 (kTn ci k).2.1 (kTn ci k).2.2.1 ∈ lw_g) (hdg : decode cc pc = .ok (.putfield index, 3))
    (kk : ∀ (H1 : Heap) (locs1 : List Loc), cJ D S0 H0 S1 H1 locs1 → W p l e R s m args below meth c H1 locs1 cells slots Q (F0 m (pc + 3) ls rest)) : W p l e R s m args below meth c H locs cells slots Q (F0 m pc ls (v :: .ref a :: rest)) := by
  obtain ⟨hx, hb, -, hown, hts, -⟩ := C
  have hap := c_apart hts X hc hy
  obtain ⟨hS, hfc, kC, hkC, hkind⟩ := X.1 ci hc
  obtain ⟨cell, q1, q2, q3, q4⟩ := hJ.1.obj hc2 hk
  obtain ⟨cf, kf, fi, f, hi, hsl⟩ := hS k hkN
  have hlay := hts _ (hy.1 _ (u_in_lay hkN))
  unfold u_lay at hlay
  rw [if_neg (by rw [hfin]; decide)] at hlay
  have hst := (u_facts hfc hkC (u_lays hts hy.1 hkN) hi).1
  have h6 := u_store (v := v) hfc hkC hkind hlay hi (hy.2.1 k hkN) hn hfit
  refine W.putK hx hb (f := f) ⟨hown, hts _ hl, ⟨_, _, _, hi⟩, hst⟩ (by rw [q2]; exact h6) q1 q3 (by rw [hsl]; exact k2_hasslot (q4 k hkN)) rfl rfl hdg fun H' e1 e2 e3 => ?_
  rw [hsl] at e1 ⊢
  exact kk H' _ (hJ.put (by rw [hk]; unfold kWr; omega) hK hZ e2 e3 (c_putAt hc2 hk hK ⟨_, e1, q2, q3, t_set q4 hap hkN _⟩ hv) hq)
theorem c_putF (C : cY p R s m args meth c own cc nL nF nC nS nR ret) (X : cX D s) (hJ : cJ D S0 H0 S H locs) (ci : Nat) (hc : ci < 13) (hy : cLy ci) (hk : kK S a = ci + 1) (k : Nat) (hkN : k < kN ci) (hfin : (kTn ci k).2.2.2 = true) (hin2 : meth.name = "<init>") (hdecl : (kTn ci k).1 = own) {v : Value} {S1 : cSt} (hn : narrow (kTy ci k) v = v) (hfit : fits (kTy ci k) v = true) (hc2 : ci < 12) (hK : S1.1 = S.1) (hZ : S1.2.2.2.2.2.2 = S.2.2.2.2.2.2) (hv : ∀ j, j < kN ci → updV (cV S a ci) k v j = cV S1 a ci j)
    (hq : ∀ (q : Nat), q ≠ a → kAt D S H q → kAt D S1 H q) {index : Nat} (hl : Cond.fieldLink own index (kTn ci k).1 (kTn ci k).2.1 (kTn ci k).2.2.1 ∈ lw_g) (hdg : decode cc pc = .ok (.putfield index, 3))
    (kk : ∀ (H1 : Heap) (locs1 : List Loc), cJ D S0 H0 S1 H1 locs1 → W p l e R s m args below meth c H1 locs1 cells slots Q (F0 m (pc + 3) ls rest)) : W p l e R s m args below meth c H locs cells slots Q (F0 m pc ls (v :: .ref a :: rest)) := by
  obtain ⟨hx, hb, -, hown, hts, -⟩ := C
  have hap := c_apart hts X hc hy
  obtain ⟨hS, hfc, kC, hkC, hkind⟩ := X.1 ci hc
  obtain ⟨cell, q1, q2, q3, q4⟩ := hJ.1.obj hc2 hk
  obtain ⟨cf, kf, fi, f, hi, hsl⟩ := hS k hkN
  have hlay := hts _ (hy.1 _ (u_in_lay hkN))
  unfold u_lay at hlay
  rw [if_pos hfin] at hlay
  have hst := (u_facts hfc hkC (u_lays hts hy.1 hkN) hi).1
  have hcf : m.cls = cf := by
    obtain ⟨_, _, c', _, _, _, -, -, hf', -, -, -, hown2, -⟩ := Cond.laysFinal_spec hlay
    have e1 : c' = cf := by have := hi.symm.trans hf'; simp at this; exact this.1.symm
    rw [hdecl] at hown2
    rw [← e1]; exact Option.some.inj (hown.symm.trans hown2)
  have h6 := u_fits hfc hkC hkind (Or.inr hlay) hi (hy.2.1 k hkN) hn hfit
  refine W.putFinK hx hb hown (hts _ hl) hi hst hcf hin2 (by rw [q2]; exact h6) q1 q3 (by rw [hsl]; exact k2_hasslot (q4 k hkN)) rfl rfl hdg fun H' e1 e2 e3 => ?_
  rw [hsl] at e1 ⊢
  exact kk H' _ (hJ.put (by rw [hk]; unfold kWr; omega) hK hZ e2 e3 (c_putAt hc2 hk hK ⟨_, e1, q2, q3, t_set q4 hap hkN _⟩ hv) hq)
theorem c_vI {x : Int32} {j : Nat} (hr : kIsR (kTy ci k) = false) : updV (cV S a ci) k (.int x) j = cV (cPi S a k x) a ci j := by
  unfold updV cV kR kF cPi up2
  by_cases h : j = k
  · subst h; simp [hr]
  · simp [h]
theorem c_vR {o : Option Nat} {j : Nat} (hr : kIsR (kTy ci k) = true) : updV (cV S a ci) k (va_rf o) j = cV (cPr S a k o) a ci j := by
  unfold updV cV kR kF cPr up2
  by_cases h : j = k
  · subst h; simp [hr]
  · simp [h]
theorem c_oPi {x : Int32} {H : Heap} : ∀ q : Nat, q ≠ a → kAt D S H q → kAt D (cPi S a k x) H q := fun q hq h => c_oth (S := S) (S1 := cPi S a k x) rfl rfl (by funext j; simp [cPi, up2, hq]) rfl rfl rfl h
theorem c_oPr {o : Option Nat} {H : Heap} : ∀ q : Nat, q ≠ a → kAt D S H q → kAt D (cPr S a k o) H q := fun q hq h => c_oth (S := S) (S1 := cPr S a k o) rfl rfl rfl (by funext j; simp [cPr, up2, hq]) rfl rfl h
theorem c_oWi {x : Int32} {i : Nat} {H : Heap} : ∀ q : Nat, q ≠ a → kAt D S H q → kAt D (cWi S a i x) H q := fun q hq h => c_oth (S := S) (S1 := cWi S a i x) rfl rfl rfl rfl (by funext j; simp [cWi, up2, hq]) rfl h
theorem c_oWo {o : Option Nat} {i : Nat} {H : Heap} : ∀ q : Nat, q ≠ a → kAt D S H q → kAt D (cWo S a i o) H q := fun q hq h => c_oth (S := S) (S1 := cWo S a i o) rfl rfl rfl rfl rfl (by funext j; simp [cWo, up2, hq]) h
theorem cW.ints (hW : cW D S H) {kd : Nat} (hk : kK S a = kd) (h1 : 20 ≤ kd) (h2 : kd < 23) : H[a]? = some (arrV (D.2.2.1 kd) (kL S a) (fun j => .int (kI S a j))) := by
  subst hk; exact (hW.2.2.1 a).2.1 h1 h2
theorem cW.refs (hW : cW D S H) {kd : Nat} (hk : kK S a = kd) (h1 : 30 ≤ kd) : H[a]? = some (arrV (D.2.2.1 kd) (kL S a) (fun j => va_rf (kO S a j))) := by
  subst hk; exact (hW.2.2.1 a).2.2.1 h1
theorem c_in {n : Nat} {i : Int32} {cA : ClassId} {f : Nat → Value} (hin : vp_in i n) : ¬ (i < 0 ∨ (arrV cA n f).slots.size ≤ i.toNatClampNeg) := by rw [arrV_size]; exact hin
theorem c_rd {n : Nat} {i : Int32} {cA : ClassId} {f : Nat → Value} (hin : vp_in i n) : (arrV cA n f).slots[i.toNatClampNeg]? = some (f i.toNatClampNeg) := arrV_read _ _ (Nat.not_le.mp fun q => hin (Or.inr q))
theorem c_iald (C : cY p R s m args meth c own cc nL nF nC nS nR ret) (X : cX D s) (hW : cW D S H) (hk : kK S a = 20) {i : Int32} (hin : vp_in i (kL S a)) (hdg : decode cc pc = .ok (.iaload, 1))
    (kk : W p l e R s m args below meth c H locs cells slots Q (F0 m (pc + 1) ls (.int (kI S a i.toNatClampNeg) :: rest))) : W p l e R s m args below meth c H locs cells slots Q (F0 m pc ls (.int i :: .ref a :: rest)) :=
  W.iald C.1 C.2.1 (hW.ints hk (by decide) (by decide)) (X.2.1.1 _ _) (fun q => by cases q) (c_in hin) (c_rd hin) rfl rfl hdg kk
theorem c_bald (C : cY p R s m args meth c own cc nL nF nC nS nR ret) (X : cX D s) (hW : cW D S H) (hk : kK S a = 21) {i : Int32} (hin : vp_in i (kL S a)) (hdg : decode cc pc = .ok (.baload, 1))
    (kk : W p l e R s m args below meth c H locs cells slots Q (F0 m (pc + 1) ls (.int (kI S a i.toNatClampNeg) :: rest))) : W p l e R s m args below meth c H locs cells slots Q (F0 m pc ls (.int i :: .ref a :: rest)) :=
  W.bald C.1 C.2.1 (hW.ints hk (by decide) (by decide)) (X.2.2.1.1 _ _) (fun q => by cases q) (c_in hin) (c_rd hin) rfl rfl hdg kk
theorem c_cald (C : cY p R s m args meth c own cc nL nF nC nS nR ret) (X : cX D s) (hW : cW D S H) (hk : kK S a = 22) {i : Int32} (hin : vp_in i (kL S a)) (hdg : decode cc pc = .ok (.caload, 1))
    (kk : W p l e R s m args below meth c H locs cells slots Q (F0 m (pc + 1) ls (.int (kI S a i.toNatClampNeg) :: rest))) : W p l e R s m args below meth c H locs cells slots Q (F0 m pc ls (.int i :: .ref a :: rest)) :=
  W.cald C.1 C.2.1 (hW.ints hk (by decide) (by decide)) (X.2.2.2.1.1 _ _) (fun q => by cases q) (c_in hin) (c_rd hin) rfl rfl hdg kk
theorem c_aald {C9 : String} (C : cY p R s m args meth c own cc nL nF nC nS nR ret) (kd : Nat) (hkd : 30 ≤ kd) (hA : kAr D s kd (.object C9)) (hW : cW D S H) (hk : kK S a = kd) {i : Int32} (hin : vp_in i (kL S a)) (hdg : decode cc pc = .ok (.aaload, 1))
    (kk : W p l e R s m args below meth c H locs cells slots Q (F0 m (pc + 1) ls (va_rf (kO S a i.toNatClampNeg) :: rest))) : W p l e R s m args below meth c H locs cells slots Q (F0 m pc ls (.int i :: .ref a :: rest)) :=
  W.aald (ty := .object C9) C.1 C.2.1 (hW.refs hk hkd) (hA.1 _ _) rfl (fun q => by cases q) (c_in hin) (c_rd hin) rfl rfl hdg kk
theorem c_wrAt {H1 : Heap} {kd i : Nat} {x : Int32} (hk : kK S a = kd) (h1 : 20 ≤ kd) (h2 : kd < 23) (e : H1[a]? = some ((arrV (D.2.2.1 kd) (kL S a) (fun j => .int (kI S a j))).setSlot i (.int x))) : kAt D (cWi S a i x) H1 a := by
  have hk1 : kK (cWi S a i x) a = kd := hk
  refine ⟨fun c' hc' hl => by omega, fun x9 y9 => ?_, fun x9 => by omega, fun x9 => by omega⟩
  rw [hk1, e, arrV_store]
  show some (arrV _ (kL S a) _) = some (arrV _ (kL S a) _)
  congr 2
  funext q
  by_cases hq : q = i
  · subst hq; simp [updV, kI, cWi, up2]
  · simp [updV, kI, cWi, up2, hq]
theorem c_woAt {H1 : Heap} {kd i : Nat} {o : Option Nat} (hk : kK S a = kd) (h1 : 30 ≤ kd) (e : H1[a]? = some ((arrV (D.2.2.1 kd) (kL S a) (fun j => va_rf (kO S a j))).setSlot i (va_rf o))) : kAt D (cWo S a i o) H1 a := by
  have hk1 : kK (cWo S a i o) a = kd := hk
  refine ⟨fun c' hc' hl => by omega, fun x9 y9 => by omega, fun x9 => ?_, fun x9 => by omega⟩
  rw [hk1, e, arrV_store]
  show some (arrV _ (kL S a) _) = some (arrV _ (kL S a) _)
  congr 2
  funext q
  by_cases hq : q = i
  · subst hq; simp [updV, kO, cWo, up2]
  · simp [updV, kO, cWo, up2, hq]
theorem c_iast (C : cY p R s m args meth c own cc nL nF nC nS nR ret) (X : cX D s) (hJ : cJ D S0 H0 S H locs) (hk : kK S a = 20) {i x : Int32} (hin : vp_in i (kL S a)) (hdg : decode cc pc = .ok (.iastore, 1))
    (kk : ∀ (H1 : Heap) (locs1 : List Loc), cJ D S0 H0 (cWi S a i.toNatClampNeg x) H1 locs1 → W p l e R s m args below meth c H1 locs1 cells slots Q (F0 m (pc + 1) ls rest)) : W p l e R s m args below meth c H locs cells slots Q (F0 m pc ls (.int x :: .int i :: .ref a :: rest)) :=
  W.iast C.1 C.2.1 (hJ.1.ints hk (by decide) (by decide)) (X.2.1.1 _ _) (fun q => by cases q) (c_in hin) rfl rfl hdg fun H1 e z oq => kk H1 _ (hJ.put (by rw [hk]; unfold kWr; decide) rfl rfl z oq (c_wrAt hk (by decide) (by decide) e) c_oWi)
theorem c_bast (C : cY p R s m args meth c own cc nL nF nC nS nR ret) (X : cX D s) (hJ : cJ D S0 H0 S H locs) (hk : kK S a = 21) {i x : Int32} (hx : vp_nar .byte x = x) (hin : vp_in i (kL S a)) (hdg : decode cc pc = .ok (.bastore, 1))
    (kk : ∀ (H1 : Heap) (locs1 : List Loc), cJ D S0 H0 (cWi S a i.toNatClampNeg x) H1 locs1 → W p l e R s m args below meth c H1 locs1 cells slots Q (F0 m (pc + 1) ls rest)) : W p l e R s m args below meth c H locs cells slots Q (F0 m pc ls (.int x :: .int i :: .ref a :: rest)) :=
  W.bast C.1 C.2.1 (hJ.1.ints hk (by decide) (by decide)) (X.2.2.1.1 _ _) (fun q => by cases q) (c_in hin) rfl rfl hdg fun H1 e z oq => kk H1 _ (hJ.put (by rw [hk]; unfold kWr; decide) rfl rfl z oq (c_wrAt hk (by decide) (by decide) (by rw [e, show narrow .byte (.int x) = .int x from congrArg Value.int hx])) c_oWi)
theorem c_cast (C : cY p R s m args meth c own cc nL nF nC nS nR ret) (X : cX D s) (hJ : cJ D S0 H0 S H locs) (hk : kK S a = 22) {i x : Int32} (hx : vp_nar .char x = x) (hin : vp_in i (kL S a)) (hdg : decode cc pc = .ok (.castore, 1))
    (kk : ∀ (H1 : Heap) (locs1 : List Loc), cJ D S0 H0 (cWi S a i.toNatClampNeg x) H1 locs1 → W p l e R s m args below meth c H1 locs1 cells slots Q (F0 m (pc + 1) ls rest)) : W p l e R s m args below meth c H locs cells slots Q (F0 m pc ls (.int x :: .int i :: .ref a :: rest)) :=
  W.cast C.1 C.2.1 (hJ.1.ints hk (by decide) (by decide)) (X.2.2.2.1.1 _ _) (fun q => by cases q) (c_in hin) rfl rfl hdg fun H1 e z oq => kk H1 _ (hJ.put (by rw [hk]; unfold kWr; decide) rfl rfl z oq (c_wrAt hk (by decide) (by decide) (by rw [e, show narrow .char (.int x) = .int x from congrArg Value.int hx])) c_oWi)
theorem c_aastN {C9 : String} (C : cY p R s m args meth c own cc nL nF nC nS nR ret) (kd : Nat) (hkd : 30 ≤ kd) (hA : kAr D s kd (.object C9)) (hJ : cJ D S0 H0 S H locs) (hk : kK S a = kd) {i : Int32} (hin : vp_in i (kL S a)) (hdg : decode cc pc = .ok (.aastore, 1))
    (kk : ∀ (H1 : Heap) (locs1 : List Loc), cJ D S0 H0 (cWo S a i.toNatClampNeg none) H1 locs1 → W p l e R s m args below meth c H1 locs1 cells slots Q (F0 m (pc + 1) ls rest)) : W p l e R s m args below meth c H locs cells slots Q (F0 m pc ls (.null :: .int i :: .ref a :: rest)) :=
  va_WaastN (C := C9) C.1 C.2.1 (hJ.1.refs hk hkd) (hA.1 _ _) (fun h => by cases h) (c_in hin) rfl rfl hdg fun H1 e z oq => kk H1 _ (hJ.put (by rw [hk]; unfold kWr; omega) rfl rfl z oq (c_woAt hk hkd e) c_oWo)
theorem c_aast (C : cY p R s m args meth c own cc nL nF nC nS nR ret) (X : cX D s) (kd ci : Nat) (hc : ci < 12) (hkd : 30 ≤ kd) (hA : kAr D s kd (.object (kRn ci))) (hJ : cJ D S0 H0 S H locs) (hk : kK S a = kd) {v : Nat} (hv : kK S v = ci + 1) {i : Int32} (hin : vp_in i (kL S a)) (hdg : decode cc pc = .ok (.aastore, 1))
    (kk : ∀ (H1 : Heap) (locs1 : List Loc), cJ D S0 H0 (cWo S a i.toNatClampNeg (some v)) H1 locs1 → W p l e R s m args below meth c H1 locs1 cells slots Q (F0 m (pc + 1) ls rest)) : W p l e R s m args below meth c H locs cells slots Q (F0 m pc ls (.ref v :: .int i :: .ref a :: rest)) := by
  have hlt : i.toNatClampNeg < kL S a := Nat.not_le.mp fun q => hin (Or.inr q)
  have h0 : ¬ i < 0 := fun q => hin (Or.inl q)
  obtain ⟨cellV, g1, g2, g3, -⟩ := hJ.1.obj hc hv
  have hcls := (X.1 ci (by omega)).2
  obtain ⟨kA, comp, k1, k2, k3, -⟩ := hA.2
  have hcomp : comp = D.1 ci := Option.some.inj (k3.symm.trans hcls.1)
  subst hcomp
  obtain ⟨kC, hkC, -⟩ := hcls.2
  exact W.aast C.1 C.2.1 (hJ.1.refs hk hkd) (fun q h => by cases h) (fun h => by cases h) k1 k2 rfl hkC ⟨h0, by show _ < (arrV _ _ _).slots.size; rw [arrV_size]; exact hlt⟩ g1 (fun q h => by rw [g3] at h; cases h) (by rw [g2]; exact hkC) (by rw [g2]; exact va_assign hcls) rfl rfl hdg fun H1 e z oq => kk H1 _ (hJ.put (by rw [hk]; unfold kWr; omega) rfl rfl z oq (c_woAt (o := some v) hk hkd e) c_oWo)
theorem c_isA (hA : ArrOfT s (D.2.2.1 23) .byte ∧ ArrOfT s (D.2.2.1 24) .byte) {cell : Cell} (hc : cell.cls = D.2.2.1 23 ∨ cell.cls = D.2.2.1 24) (hv : cell.vm.isStatics = false) : s.isArrayOf cell .byte := by
  refine ⟨(fun k h => by rw [h] at hv; cases hv), ?_⟩
  rcases hc with hc | hc
  · rw [hc]; exact (hA.1 0 (fun _ => .null)).2
  · rw [hc]; exact (hA.2 0 (fun _ => .null)).2
theorem c_leni (C : cY p R s m args meth c own cc nL nF nC nS nR ret) {ty : FieldType} (kd : Nat) (h1 : 20 ≤ kd) (h2 : kd < 23) (hA : kAr D s kd ty) (hW : cW D S H) (hk : kK S a = kd) (hdg : decode cc pc = .ok (.arraylength, 1))
    (kk : W p l e R s m args below meth c H locs cells slots Q (F0 m (pc + 1) ls (.int (Int32.ofNat (kL S a)) :: rest))) : W p l e R s m args below meth c H locs cells slots Q (F0 m pc ls (.ref a :: rest)) :=
  W.alen C.1 C.2.1 (hW.ints hk h1 h2) (hA.1 _ _) (by rw [arrV_size]) rfl rfl hdg kk
theorem c_lens (C : cY p R s m args meth c own cc nL nF nC nS nR ret) (X : cX D s) (hW : cW D S H) (hk : kK S a = 23) (hdg : decode cc pc = .ok (.arraylength, 1))
    (kk : W p l e R s m args below meth c H locs cells slots Q (F0 m (pc + 1) ls (.int (Int32.ofNat (kL S a)) :: rest))) : W p l e R s m args below meth c H locs cells slots Q (F0 m pc ls (.ref a :: rest)) := by
  obtain ⟨cell, q1, q2, q3, -, q5⟩ := (hW.2.2.1 a).2.2.2 (Or.inr hk)
  obtain ⟨g1, g2, g3⟩ := q5 hk
  exact W.alen C.1 C.2.1 q1 (c_isA X.2.2.2.2.2.2.2.2.2.1 g1 q2) g2.2 rfl rfl hdg kk
theorem c_new (C : cY p R s m args meth c own cc nL nF nC nS nR ret) (X : cX D s) (hJ : cJ D S0 H0 S H locs) (ci : Nat) (hc : ci < 12) (hy : cLy ci) (hd : ∀ j, j < kN ci → defaultValue (kTy ci j) = if kIsR (kTy ci j) = true then .null else .int 0) {index : Nat} (hcl : Cond.classLink own index (kRn ci) ∈ lw_g) (hinst : Cond.instantiable (kRn ci) (kN ci) ∈ lw_g) (hini : Cond.initialized (kRn ci) ∈ lw_g) (hce : cells + 1 ≤ nC) (hsl : slots + kN ci ≤ nS) (hdg : decode cc pc = .ok (.new index, 3))
    (kk : ∀ (H1 : Heap), cJ D S0 H0 (cNw S (ci + 1) 0) H1 locs → W p l e R s m args below meth c H1 locs (cells + 1) (slots + kN ci) Q (F0 m (pc + 3) ls (.ref (kZ S) :: rest))) : W p l e R s m args below meth c H locs cells slots Q (F0 m pc ls rest) := by
  obtain ⟨hx, hb, -, hown, hts, hR, -⟩ := C
  have hKn := X.1 ci (by omega)
  refine W.newcK hx hb hown (hts _ hcl) (hts _ hinst) (hts _ hini) rfl hdg (Nat.le_trans hce hR.2.1) (Nat.le_trans hsl hR.2.2.1) hKn.2.1 hJ.1.1 fun H1 kC hkC e1 z1 o1 => ?_
  refine kk H1 (hJ.push (by omega) z1 o1 ?_)
  have hk1 : kK (cNw S (ci + 1) 0) (kZ S) = ci + 1 := by simp [kK, cNw, va_up]
  refine ⟨fun c' hc' hl => ?_, fun x9 y9 => by omega, fun x9 => by omega, fun x9 => by omega⟩
  have : c' = ci := by omega
  subst this
  refine (u_born (kTy c') hts hy.1 hKn hkC e1 hy.2.1).to (fun j hj => ?_)
  rw [hd j hj]
  simp [cV, kR, kF, cNw, upr, va_rf]
theorem c_newa (C : cY p R s m args meth c own cc nL nF nC nS nR ret) (hJ : cJ D S0 H0 S H locs) {atype : ArrayType} {ty : FieldType} (kd : Nat) (h1 : 20 ≤ kd) (h2 : kd < 23) (hA : kAr D s kd ty) (hty : newarray.typeOf atype = ty) (hRA : va_RA s (D.2.2.1 kd) ty → s.vm.findClass ("[" ++ ty.toString) = some (D.2.2.1 kd)) (hdf : defaultValue ty = .int 0) (harr : Cond.arrayClass ty ∈ lw_g) {n : Int32} {N : Nat} (hn : ¬ n < 0) (hN : n.toNatClampNeg = N) (hby : N * componentBytes ty ≤ 536870912) (hce : cells + 1 ≤ nC) (hsl : slots + N ≤ nS) (hdg : decode cc pc = .ok (.newarray atype, 2))
    (kk : ∀ (H1 : Heap), cJ D S0 H0 (cNw S kd N) H1 locs → W p l e R s m args below meth c H1 locs (cells + 1) (slots + N) Q (F0 m (pc + 2) ls (.ref (kZ S) :: rest))) : W p l e R s m args below meth c H locs cells slots Q (F0 m pc ls (.int n :: rest)) := by
  obtain ⟨hx, hb, -, hown, hts, hR, -⟩ := C
  subst hty
  refine va_newaK hx hb (hts _ harr) rfl hdg rfl hn hN hby (Nat.le_trans hce hR.2.1) (Nat.le_trans hsl hR.2.2.1) hJ.1.1 fun H1 cA' e1 z1 o1 ha hf => ?_
  have hcA : cA' = D.2.2.1 kd := Option.some.inj (hf.symm.trans (hRA hA.2))
  refine kk H1 (hJ.push (by omega) z1 o1 ?_)
  have hk1 : kK (cNw S kd N) (kZ S) = kd := by simp [kK, cNw, va_up]
  refine ⟨fun c' hc' hl => by omega, fun x9 y9 => ?_, fun x9 => by omega, fun x9 => by omega⟩
  rw [hk1, e1, hcA, hdf]
  simp [kL, kI, cNw, va_up, upr]
theorem c_anew {C9 : String} (C : cY p R s m args meth c own cc nL nF nC nS nR ret) (hJ : cJ D S0 H0 S H locs) (kd : Nat) (h1 : 30 ≤ kd) (hA : kAr D s kd (.object C9)) {index : Nat} (hcl : Cond.classLink own index C9 ∈ lw_g) (hov : va_AO C9 s) {n : Int32} {N : Nat} (hn : ¬ n < 0) (hN : n.toNatClampNeg = N) (hby : N * 4 ≤ 536870912) (hce : cells + 1 ≤ nC) (hsl : slots + N ≤ nS) (hdg : decode cc pc = .ok (.anewarray index, 3))
    (kk : ∀ (H1 : Heap), cJ D S0 H0 (cNw S kd N) H1 locs → W p l e R s m args below meth c H1 locs (cells + 1) (slots + N) Q (F0 m (pc + 3) ls (.ref (kZ S) :: rest))) : W p l e R s m args below meth c H locs cells slots Q (F0 m pc ls (.int n :: rest)) := by
  obtain ⟨hx, hb, -, hown, hts, hR, -⟩ := C
  subst hN
  refine W.anew hx hb hown (hts _ hcl) (va_AO.use hov) rfl hdg rfl hn hby (Nat.le_trans hce hR.2.1) (Nat.le_trans hsl hR.2.2.1) fun cA' kA comp f1 f2 f3 f4 => ?_
  generalize hH1 : H.push ({ cls := cA', slots := Array.replicate n.toNatClampNeg .null, vm := .none } : Cell) = H1
  have z1 : H1.size = H.size + 1 := by rw [← hH1, Array.size_push]
  have e1 : H1[H.size]? = some (arrV cA' n.toNatClampNeg (fun _ => .null)) := by rw [← hH1, Array.getElem?_push_size, ← arrV_new]
  have o1 : ∀ q : Nat, q < H.size → H1[q]? = H[q]? := fun q hq => by rw [← hH1, Array.getElem?_push, if_neg (Nat.ne_of_lt hq)]
  rw [hJ.1.1] at z1 e1 o1
  obtain ⟨kA2, comp2, g1, g2, g3, g4⟩ := hA.2
  have hcA : cA' = D.2.2.1 kd := Option.some.inj (by first | exact f1.symm.trans g4 | exact f4.symm.trans g4)
  refine W.eq (g2 := F0 m (pc + 3) ls (.ref (kZ S) :: rest)) (by rw [← hJ.1.1]) (kk H1 (hJ.push (by omega) z1 o1 ?_))
  have hk1 : kK (cNw S kd n.toNatClampNeg) (kZ S) = kd := by simp [kK, cNw, va_up]
  refine ⟨fun c' hc' hl => by omega, fun x9 y9 => by omega, fun x9 => ?_, fun x9 => by omega⟩
  rw [hk1, e1, hcA]
  simp [kL, kO, cNw, va_up, upr, va_rf]
end CK
section CQ
variable {p : Program} {l : Launch} {e : Env} {R : Room} {s : State} {m : MethodId} {args : Array Value} {below : List Frame} {meth : Method} {c : Code} {H : Heap} {locs : List Loc} {cells slots : Nat} {Q : State → Prop}
variable {D : cG} {S S0 : cSt} {own : String} {cc : ByteArray} {nL : Nat} {pc : Nat} {ls : Array Slot} {rest : List Value} {H0 : Heap} {nF nR nC nS : Nat} {ret : Option FieldType} {a k index ci : Nat}
theorem kcat (o : Option Nat) : (va_rf o).category = 1 := by cases o <;> rfl
/-- a reference that may be null -/
def cs {β : Type} (o : Option Nat) (A : Option β) (B : Nat → Option β) : Option β := match o with | none => A | some x => B x
theorem cs_n {β : Type} {A : Option β} {B : Nat → Option β} {r : β} (h : cs none A B = some r) : A = some r := h
theorem cs_s {β : Type} {A : Option β} {B : Nat → Option β} {r : β} {x : Nat} (h : cs (some x) A B = some r) : B x = some r := h
theorem lv_aload_nq (hexec : p.tables.exec = Jvm.exec) (hb : c.code = cc) {k : Fin 4} {i : Nat} {o : Option Nat} (hdg : decode cc pc = .ok (.aload_n k, 1)) (hi : (k : Nat) = i) (hl : ls[i]? = some (.val (va_rf o)))
    (kk : W p l e R s m args below meth c H locs cells slots Q (F0 m (pc + 1) ls (va_rf o :: rest))) : W p l e R s m args below meth c H locs cells slots Q (F0 m pc ls rest) := by
  cases o with
  | none => exact lv_aload_nN hexec hb hdg hi hl kk
  | some x => exact lv_aload_n hexec hb hdg hi hl kk
theorem lv_aloadq (hexec : p.tables.exec = Jvm.exec) (hb : c.code = cc) {i : Nat} {o : Option Nat} (hdg : decode cc pc = .ok (.aload i, 2)) (hl : ls[i]? = some (.val (va_rf o)))
    (kk : W p l e R s m args below meth c H locs cells slots Q (F0 m (pc + 2) ls (va_rf o :: rest))) : W p l e R s m args below meth c H locs cells slots Q (F0 m pc ls rest) := by
  cases o with
  | none => exact lv_aloadN hexec hb hdg hl kk
  | some x => exact lv_aload hexec hb hdg hl kk
theorem lv_astore_nq (hexec : p.tables.exec = Jvm.exec) (hb : c.code = cc) {k : Fin 4} {i nL : Nat} {o : Option Nat} {lv lv' : List (Nat × Value)} (hdg : decode cc pc = .ok (.astore_n k, 1)) (hi : (k : Nat) = i) (h : lv_has ls nL lv) (hn : i < nL) (hl : (i, va_rf o) :: lv.filter (fun q => !(q.1 == i) && !(q.1 + 1 == i && q.2.category == 2)) = lv')
    (kk : ∀ ls' : Array Slot, lv_has ls' nL lv' → W p l e R s m args below meth c H locs cells slots Q (F0 m (pc + 1) ls' rest)) : W p l e R s m args below meth c H locs cells slots Q (F0 m pc ls (va_rf o :: rest)) := by
  cases o with
  | none => exact lv_astore_nN hexec hb hdg hi h hn hl kk
  | some x => exact lv_astore_n hexec hb hdg hi h hn hl kk
theorem lv_astoreq (hexec : p.tables.exec = Jvm.exec) (hb : c.code = cc) {i nL : Nat} {o : Option Nat} {lv lv' : List (Nat × Value)} (hdg : decode cc pc = .ok (.astore i, 2)) (h : lv_has ls nL lv) (hn : i < nL) (hl : (i, va_rf o) :: lv.filter (fun q => !(q.1 == i) && !(q.1 + 1 == i && q.2.category == 2)) = lv')
    (kk : ∀ ls' : Array Slot, lv_has ls' nL lv' → W p l e R s m args below meth c H locs cells slots Q (F0 m (pc + 2) ls' rest)) : W p l e R s m args below meth c H locs cells slots Q (F0 m pc ls (va_rf o :: rest)) := by
  cases o with
  | none => exact lv_astoreN hexec hb hdg h hn hl kk
  | some x => exact lv_astore hexec hb hdg h hn hl kk
theorem lv_nmq {x y : Option Nat} (e1 : x = y) (kk : W p l e R s m args below meth c H locs cells slots Q (F0 m pc ls (va_rf y :: rest))) : W p l e R s m args below meth c H locs cells slots Q (F0 m pc ls (va_rf x :: rest)) := e1 ▸ kk
/-! ends -/
def kQ (ov : Option Value) : Array Value → State → Outcome → State → Prop := fun _ st o t => o = .returned ov ∧ t.heap = st.heap
def kW (ov : Option Value) (D : cG) (S S9 : cSt) : Array Value → State → Outcome → State → Prop := fun _ st o t => o = .returned ov ∧ cW D S9 t.heap ∧ (∀ q : Nat, q < kZ S → ¬ kWr (kK S q) → t.heap[q]? = st.heap[q]?) ∧ cGr S S9
def kPi (As : List Value) (D : cG) (S : cSt) : Array Value → State → Prop := fun v U => v = As.toArray ∧ cW D S U.heap ∧ cX D U
theorem kPi.blind {As : List Value} : FrameBlind (kPi As D S) := fun a U g mk q => ⟨q.1, q.2.1, cX.same (u := U) (U := U.calling g mk a) rfl q.2.2⟩
theorem cW.recv (X : cX D s) (h : cW D S H) (ci : Nat) (hc : ci < 13) (hk : kK S a = ci + 1) : ∃ cell : Cell, H[a]? = some cell ∧ cell.vm.isStatics = false ∧ s.vm.findClass (kRn ci) = some cell.cls := by
  by_cases h12 : ci = 12
  · subst h12
    obtain ⟨cell, q1, q2, q3, q4, -⟩ := (h.2.2.1 a).2.2.2 (Or.inl hk)
    exact ⟨cell, q1, q2, by rw [(q4 hk).1]; exact (X.1 12 hc).2.1⟩
  · obtain ⟨cell, h1, h2, h3, -⟩ := h.obj (by omega) hk
    exact ⟨cell, h1, by rw [h3]; rfl, by rw [h2]; exact (X.1 ci hc).2.1⟩
variable {y : MethodName} {bytes : ByteArray} {maxL n : Nat} {rt : Option FieldType} {As st0 : List Value} {fr lo mc ms : Nat} {r : Int32} {ov : Option Value} {S1 : cSt}
def cCw (own : String) (idx : Nat) (y : MethodName) (bytes : ByteArray) (maxL : Nat) (rt : Option FieldType) (n : Nat) : Prop :=
  Cond.code y bytes maxL rt ∈ lw_g ∧ Cond.methodLink own idx y ∈ lw_g ∧ Cond.initialized y.cls ∈ lw_g ∧ (y.cls ≠ "java/lang/invoke/MethodHandle" ∧ y.cls ≠ "java/lang/invoke/VarHandle" ∧ (parseMethodDescriptor y.desc).map (fun d => d.parameters.length) = some n)
theorem c_cb (C : cY p R s m args meth c own cc nL nF nC nS nR ret) (hw : cCw own index y bytes maxL rt n) (hR : fr + 1 ≤ nF ∧ 8 + (maxL + 11) + lo ≤ nR) :
    CallB R s args own index y bytes maxL rt (Cond.code y bytes maxL rt :: lw_g) { frames := fr, cells := mc, slots := ms, locals := lo } mc ms n := by
  obtain ⟨h1, h2, h3, h4⟩ := hw
  exact callB_of n C.2.2.2.2.1 (mt_in (mt_cons h1)) rfl rfl rfl (C.2.2.2.2.1 _ h3) (C.2.2.2.2.1 _ h2) h4 ⟨Nat.le_trans hR.1 C.2.2.2.2.2.1.1, Nat.le_trans hR.2 C.2.2.2.2.2.1.2.2.2⟩
theorem c_same {a : Array Value} (hr : va_Run p l e R s m args below meth c H locs cells slots 0 0 (F0 m pc ls st0) rest (kQ ov a) mNo)
    (kk : W p l e R s m args below meth c H locs cells slots Q (F0 m (pc + 3) ls (ov.toList ++ rest))) : W p l e R s m args below meth c H locs cells slots Q (F0 m pc ls st0) := by
  intro T hT X
  obtain ⟨v, st₀, t, T', L, h0, X', hL, e1, e2, ⟨hv, hh⟩, st⟩ := hr T hT X
  cases hv
  have hLn : L = [] := List.eq_nil_iff_forall_not_mem.mpr fun q hq => hL q hq
  subst hLn
  rw [List.append_nil] at X'
  obtain ⟨t2, a1, b1⟩ := kk T' (by rw [e1, hh, h0]) X'
  exact ⟨t2, st t2 a1, b1⟩
theorem c_moved {a : Array Value} (hr : va_Run p l e R s m args below meth c H locs cells slots mc ms (F0 m pc ls st0) rest (kW ov D S S1 a) (cA S)) (hJ : cJ D S0 H0 S H locs)
    (kk : ∀ (H1 : Heap) (locs1 : List Loc), cJ D S0 H0 S1 H1 locs1 → W p l e R s m args below meth c H1 locs1 (cells + mc) (slots + ms) Q (F0 m (pc + 3) ls (ov.toList ++ rest))) : W p l e R s m args below meth c H locs cells slots Q (F0 m pc ls st0) := by
  intro T hT X
  obtain ⟨v, st₀, t, T', L, h0, X', hL, e1, e2, ⟨hv, hw, hk, hg⟩, st⟩ := hr T hT X
  cases hv
  rw [h0] at hk
  have hin : ∀ q, cA S q → cA S0 q := fun q hq => by
    rcases hq with h | h
    · exact hJ.in h
    · exact Or.inr (Nat.le_trans hJ.2.2.2.1 h)
  obtain ⟨t2, a1, b1⟩ := kk T'.heap (locs ++ L) ⟨by rw [e1]; exact hw, fun q q1 q2 => by rw [e1, hk q (Nat.lt_of_lt_of_le q1 hJ.2.2.2.1) (by rw [hJ.2.2.2.2 q q1]; exact q2)]; exact hJ.2.1 q q1 q2, fun q hq => by
    rcases List.mem_append.mp hq with h | h
    · exact hJ.2.2.1 q h
    · exact hin _ (hL q h), hJ.2.2.2.tr hg⟩ T' rfl X'
  exact ⟨t2, st t2 a1, b1⟩
/-- calls: of a static method that reads nothing; that reads; that writes; of a method of an object, likewise; of a constructor -/
theorem c_callS (C : cY p R s m args meth c own cc nL nF nC nS nR ret) (hls : ls.size = nL) (As : List Value) (hM : Met l y (Cond.code y bytes maxL rt :: lw_g) { frames := fr, cells := 0, slots := 0, locals := lo } (mPs As) (kQ ov) 0 0 mNo) (hw : cCw own index y bytes maxL rt n) (hs : Cond.static y ∈ lw_g) (hn : As.length = n)
    (hR : fr + 1 ≤ nF ∧ 8 + (maxL + 11) + lo ≤ nR) (hce : cells ≤ nC ∧ slots ≤ nS) (hst : st0 = As.reverse ++ rest) (hro : (rest.map fun v => v.category).sum ≤ 8) (hdg : decode cc pc = .ok (.invokestatic index, 3))
    (kk : W p l e R s m args below meth c H locs cells slots Q (F0 m (pc + 3) ls (ov.toList ++ rest))) : W p l e R s m args below meth c H locs cells slots Q (F0 m pc ls st0) :=
  c_same (va_runS (As := As) (rest := rest) (Ts := lw_g) ⟨C.1, C.2.1, C.2.2.1, C.2.2.2.1, C.2.2.2.2.1⟩ hM ⟨c_cb C hw hR, C.2.2.2.2.1 _ hs⟩ ⟨mPs.blind, fun _ _ _ => rfl⟩ rfl hn hls hst (lv_room hro) hdg ⟨Nat.le_trans hce.1 C.2.2.2.2.2.1.2.1, Nat.le_trans hce.2 C.2.2.2.2.2.1.2.2.1⟩) kk
theorem c_callSR (C : cY p R s m args meth c own cc nL nF nC nS nR ret) (X : cX D s) (hW : cW D S H) (hls : ls.size = nL) (As : List Value) (hM : Met l y (Cond.code y bytes maxL rt :: lw_g) { frames := fr, cells := 0, slots := 0, locals := lo } (kPi As D S) (kQ ov) 0 0 mNo) (hw : cCw own index y bytes maxL rt n) (hs : Cond.static y ∈ lw_g) (hn : As.length = n)
    (hR : fr + 1 ≤ nF ∧ 8 + (maxL + 11) + lo ≤ nR) (hce : cells ≤ nC ∧ slots ≤ nS) (hst : st0 = As.reverse ++ rest) (hro : (rest.map fun v => v.category).sum ≤ 8) (hdg : decode cc pc = .ok (.invokestatic index, 3))
    (kk : W p l e R s m args below meth c H locs cells slots Q (F0 m (pc + 3) ls (ov.toList ++ rest))) : W p l e R s m args below meth c H locs cells slots Q (F0 m pc ls st0) :=
  c_same (va_runS (As := As) (rest := rest) (Ts := lw_g) ⟨C.1, C.2.1, C.2.2.1, C.2.2.2.1, C.2.2.2.2.1⟩ hM ⟨c_cb C hw hR, C.2.2.2.2.1 _ hs⟩ ⟨kPi.blind, fun U hU hWm => ⟨rfl, by rw [hU]; exact hW, X.warm hWm⟩⟩ rfl hn hls hst (lv_room hro) hdg ⟨Nat.le_trans hce.1 C.2.2.2.2.2.1.2.1, Nat.le_trans hce.2 C.2.2.2.2.2.1.2.2.1⟩) kk
theorem c_callSW (C : cY p R s m args meth c own cc nL nF nC nS nR ret) (X : cX D s) (hJ : cJ D S0 H0 S H locs) (hls : ls.size = nL) (As : List Value) (hM : Met l y (Cond.code y bytes maxL rt :: lw_g) { frames := fr, cells := mc, slots := ms, locals := lo } (kPi As D S) (kW ov D S S1) mc ms (cA S)) (hw : cCw own index y bytes maxL rt n) (hs : Cond.static y ∈ lw_g) (hn : As.length = n)
    (hR : fr + 1 ≤ nF ∧ 8 + (maxL + 11) + lo ≤ nR) (hce : cells + mc ≤ nC ∧ slots + ms ≤ nS) (hst : st0 = As.reverse ++ rest) (hro : (rest.map fun v => v.category).sum ≤ 8) (hdg : decode cc pc = .ok (.invokestatic index, 3))
    (kk : ∀ (H1 : Heap) (locs1 : List Loc), cJ D S0 H0 S1 H1 locs1 → W p l e R s m args below meth c H1 locs1 (cells + mc) (slots + ms) Q (F0 m (pc + 3) ls (ov.toList ++ rest))) : W p l e R s m args below meth c H locs cells slots Q (F0 m pc ls st0) :=
  c_moved (va_runS (As := As) (rest := rest) (Ts := lw_g) ⟨C.1, C.2.1, C.2.2.1, C.2.2.2.1, C.2.2.2.2.1⟩ hM ⟨c_cb C hw hR, C.2.2.2.2.1 _ hs⟩ ⟨kPi.blind, fun U hU hWm => ⟨rfl, by rw [hU]; exact hJ.1, X.warm hWm⟩⟩ rfl hn hls hst (lv_room hro) hdg ⟨Nat.le_trans hce.1 C.2.2.2.2.2.1.2.1, Nat.le_trans hce.2 C.2.2.2.2.2.1.2.2.1⟩) hJ kk
theorem c_callR (C : cY p R s m args meth c own cc nL nF nC nS nR ret) (X : cX D s) (hW : cW D S H) (hls : ls.size = nL) (ci : Nat) (hc : ci < 13) {b : Nat} (hk : kK S b = ci + 1) (As : List Value) (hM : Met l y (Cond.code y bytes maxL rt :: lw_g) { frames := fr, cells := 0, slots := 0, locals := lo } (kPi (.ref b :: As) D S) (kQ ov) 0 0 mNo) (hw : cCw own index y bytes maxL rt n) (hi : Cond.instanceMethod y ∈ lw_g) (hs : Cond.selects (kRn ci) y y ∈ lw_g) (hn : As.length = n)
    (hR : fr + 1 ≤ nF ∧ 8 + (maxL + 11) + lo ≤ nR) (hce : cells ≤ nC ∧ slots ≤ nS) (hst : st0 = As.reverse ++ .ref b :: rest) (hro : (rest.map fun v => v.category).sum ≤ 8) (hdg : decode cc pc = .ok (.invokevirtual index, 3))
    (kk : W p l e R s m args below meth c H locs cells slots Q (F0 m (pc + 3) ls (ov.toList ++ rest))) : W p l e R s m args below meth c H locs cells slots Q (F0 m pc ls st0) :=
  c_same (va_runV (As := As) (rest := rest) (Ts := lw_g) ⟨C.1, C.2.1, C.2.2.1, C.2.2.2.1, C.2.2.2.2.1⟩ hM ⟨c_cb C hw hR, C.2.2.2.2.1 _ hi, C.2.2.2.2.1 _ hs⟩ ⟨kPi.blind, hW.recv X ci hc hk, fun U hU hWm => ⟨rfl, by rw [hU]; exact hW, X.warm hWm⟩⟩ rfl hn hls hst (lv_room hro) hdg ⟨Nat.le_trans hce.1 C.2.2.2.2.2.1.2.1, Nat.le_trans hce.2 C.2.2.2.2.2.1.2.2.1⟩) kk
theorem c_callW (C : cY p R s m args meth c own cc nL nF nC nS nR ret) (X : cX D s) (hJ : cJ D S0 H0 S H locs) (hls : ls.size = nL) (ci : Nat) (hc : ci < 13) {b : Nat} (hk : kK S b = ci + 1) (As : List Value) (hM : Met l y (Cond.code y bytes maxL rt :: lw_g) { frames := fr, cells := mc, slots := ms, locals := lo } (kPi (.ref b :: As) D S) (kW ov D S S1) mc ms (cA S)) (hw : cCw own index y bytes maxL rt n) (hi : Cond.instanceMethod y ∈ lw_g) (hs : Cond.selects (kRn ci) y y ∈ lw_g) (hn : As.length = n)
    (hR : fr + 1 ≤ nF ∧ 8 + (maxL + 11) + lo ≤ nR) (hce : cells + mc ≤ nC ∧ slots + ms ≤ nS) (hst : st0 = As.reverse ++ .ref b :: rest) (hro : (rest.map fun v => v.category).sum ≤ 8) (hdg : decode cc pc = .ok (.invokevirtual index, 3))
    (kk : ∀ (H1 : Heap) (locs1 : List Loc), cJ D S0 H0 S1 H1 locs1 → W p l e R s m args below meth c H1 locs1 (cells + mc) (slots + ms) Q (F0 m (pc + 3) ls (ov.toList ++ rest))) : W p l e R s m args below meth c H locs cells slots Q (F0 m pc ls st0) :=
  c_moved (va_runV (As := As) (rest := rest) (Ts := lw_g) ⟨C.1, C.2.1, C.2.2.1, C.2.2.2.1, C.2.2.2.2.1⟩ hM ⟨c_cb C hw hR, C.2.2.2.2.1 _ hi, C.2.2.2.2.1 _ hs⟩ ⟨kPi.blind, hJ.1.recv X ci hc hk, fun U hU hWm => ⟨rfl, by rw [hU]; exact hJ.1, X.warm hWm⟩⟩ rfl hn hls hst (lv_room hro) hdg ⟨Nat.le_trans hce.1 C.2.2.2.2.2.1.2.1, Nat.le_trans hce.2 C.2.2.2.2.2.1.2.2.1⟩) hJ kk
theorem c_callI (C : cY p R s m args meth c own cc nL nF nC nS nR ret) (X : cX D s) (hJ : cJ D S0 H0 S H locs) (hls : ls.size = nL) {b : Nat} (As : List Value) (hM : Met l y (Cond.code y bytes maxL none :: lw_g) { frames := fr, cells := mc, slots := ms, locals := lo } (kPi (.ref b :: As) D S) (kW none D S S1) mc ms (cA S)) (hw : cCw own index y bytes maxL none n) (hi : Cond.instanceMethod y ∈ lw_g) (hy1 : y.name = "<init>") (hn : As.length = n)
    (hR : fr + 1 ≤ nF ∧ 8 + (maxL + 11) + lo ≤ nR) (hce : cells + mc ≤ nC ∧ slots + ms ≤ nS) (hst : st0 = As.reverse ++ .ref b :: rest) (hro : (rest.map fun v => v.category).sum ≤ 8) (hdg : decode cc pc = .ok (.invokespecial index, 3))
    (kk : ∀ (H1 : Heap) (locs1 : List Loc), cJ D S0 H0 S1 H1 locs1 → W p l e R s m args below meth c H1 locs1 (cells + mc) (slots + ms) Q (F0 m (pc + 3) ls rest)) : W p l e R s m args below meth c H locs cells slots Q (F0 m pc ls st0) :=
  c_moved (ov := none) (va_runI (As := As) (rest := rest) (Ts := lw_g) ⟨C.1, C.2.1, C.2.2.1, C.2.2.2.1, C.2.2.2.2.1⟩ hM ⟨c_cb C hw hR, hy1, C.2.2.2.2.1 _ hi⟩ ⟨kPi.blind, fun U hU hWm => ⟨rfl, by rw [hU]; exact hJ.1, X.warm hWm⟩⟩ rfl hn hls hst (lv_room hro) hdg ⟨Nat.le_trans hce.1 C.2.2.2.2.2.1.2.1, Nat.le_trans hce.2 C.2.2.2.2.2.1.2.2.1⟩) hJ kk
/-! ends of methods -/
theorem c_reti (C : cY p R s m args meth c own cc nL nF nC nS nR (some .int)) {v : Int32} (hl0 : locs = []) (hH : H = s.heap) (hdg : decode cc pc = .ok (.ireturn, 1)) : W p l e R s m args below meth c H locs cells slots (MQ below (kQ (some (.int v))) args s cells slots mNo) (F0 m pc ls [.int v]) := by
  have hlocks := C.2.2.2.2.2.2.2
  exact W.iret C.1 C.2.1 C.2.2.2.2.2.2.1 (fun t ht _ => ⟨rfl, ht.trans hH⟩) (by rw [hl0]; exact fun q h => by cases h) hdg
theorem c_retn {ty : FieldType} (C : cY p R s m args meth c own cc nL nF nC nS nR (some ty)) {v : Int32} (hz : narrow ty (.int v) = .int v) (hl0 : locs = []) (hH : H = s.heap) (hdg : decode cc pc = .ok (.ireturn, 1)) : W p l e R s m args below meth c H locs cells slots (MQ below (kQ (some (.int v))) args s cells slots mNo) (F0 m pc ls [.int v]) := by
  have hlocks := C.2.2.2.2.2.2.2
  exact W.zret C.1 C.2.1 C.2.2.2.2.2.2.1 hz (fun t ht _ => ⟨rfl, ht.trans hH⟩) (by rw [hl0]; exact fun q h => by cases h) hdg
theorem c_retv (C : cY p R s m args meth c own cc nL nF nC nS nR none) (hl0 : locs = []) (hH : H = s.heap) (hdg : decode cc pc = .ok (.return_, 1)) : W p l e R s m args below meth c H locs cells slots (MQ below (kQ none) args s cells slots mNo) (F0 m pc ls []) := by
  have hlocks := C.2.2.2.2.2.2.2
  exact W.vret C.1 C.2.1 C.2.2.2.2.2.2.1 (fun t ht _ => ⟨rfl, ht.trans hH⟩) (by rw [hl0]; exact fun q h => by cases h) hdg
theorem kref (o : Option Nat) : va_rf o = .null ∨ ∃ a, va_rf o = .ref a := by cases o; exact Or.inl rfl; exact Or.inr ⟨_, rfl⟩
theorem c_reta {C9 : String} (C : cY p R s m args meth c own cc nL nF nC nS nR (some (.object C9))) {o : Option Nat} (hl0 : locs = []) (hH : H = s.heap) (hdg : decode cc pc = .ok (.areturn, 1)) : W p l e R s m args below meth c H locs cells slots (MQ below (kQ (some (va_rf o))) args s cells slots mNo) (F0 m pc ls [va_rf o]) := by
  have hlocks := C.2.2.2.2.2.2.2
  exact W.aret C.1 C.2.1 C.2.2.2.2.2.2.1 (Or.inl ⟨_, rfl⟩) (kref o) (fun t ht _ => ⟨rfl, ht.trans hH⟩) (by rw [hl0]; exact fun q h => by cases h) hdg
theorem c_end {t : State} {ov : Option Value} (hJ : cJ D S0 s.heap S H locs) (ht : t.heap = H) : kW ov D S0 S args s (.returned ov) t := ⟨rfl, by rw [ht]; exact hJ.1, fun q q1 q2 => by rw [ht]; exact hJ.2.1 q q1 q2, hJ.2.2.2⟩
theorem c_retiW (C : cY p R s m args meth c own cc nL nF nC nS nR (some .int)) {v : Int32} (hJ : cJ D S0 s.heap S H locs) (hdg : decode cc pc = .ok (.ireturn, 1)) : W p l e R s m args below meth c H locs cells slots (MQ below (kW (some (.int v)) D S0 S) args s cells slots (cA S0)) (F0 m pc ls [.int v]) := by
  have hlocks := C.2.2.2.2.2.2.2
  exact W.iret C.1 C.2.1 C.2.2.2.2.2.2.1 (fun t ht _ => c_end hJ ht) hJ.2.2.1 hdg
theorem c_retnW {ty : FieldType} (C : cY p R s m args meth c own cc nL nF nC nS nR (some ty)) {v : Int32} (hz : narrow ty (.int v) = .int v) (hJ : cJ D S0 s.heap S H locs) (hdg : decode cc pc = .ok (.ireturn, 1)) : W p l e R s m args below meth c H locs cells slots (MQ below (kW (some (.int v)) D S0 S) args s cells slots (cA S0)) (F0 m pc ls [.int v]) := by
  have hlocks := C.2.2.2.2.2.2.2
  exact W.zret C.1 C.2.1 C.2.2.2.2.2.2.1 hz (fun t ht _ => c_end hJ ht) hJ.2.2.1 hdg
theorem c_retaW {C9 : String} (C : cY p R s m args meth c own cc nL nF nC nS nR (some (.object C9))) {o : Option Nat} (hJ : cJ D S0 s.heap S H locs) (hdg : decode cc pc = .ok (.areturn, 1)) : W p l e R s m args below meth c H locs cells slots (MQ below (kW (some (va_rf o)) D S0 S) args s cells slots (cA S0)) (F0 m pc ls [va_rf o]) := by
  have hlocks := C.2.2.2.2.2.2.2
  exact W.aret C.1 C.2.1 C.2.2.2.2.2.2.1 (Or.inl ⟨_, rfl⟩) (kref o) (fun t ht _ => c_end hJ ht) hJ.2.2.1 hdg
theorem c_retvW (C : cY p R s m args meth c own cc nL nF nC nS nR none) (hJ : cJ D S0 s.heap S H locs) (hdg : decode cc pc = .ok (.return_, 1)) : W p l e R s m args below meth c H locs cells slots (MQ below (kW none D S0 S) args s cells slots (cA S0)) (F0 m pc ls []) := by
  have hlocks := C.2.2.2.2.2.2.2
  exact W.vret C.1 C.2.1 C.2.2.2.2.2.2.1 (fun t ht _ => c_end hJ ht) hJ.2.2.1 hdg
end CQ
section CV
variable {p : Program} {l : Launch} {e : Env} {R : Room} {s : State} {m : MethodId} {args : Array Value} {below : List Frame} {meth : Method} {c : Code} {H : Heap} {locs : List Loc} {cells slots : Nat} {Q : State → Prop}
variable {D : cG} {S S0 : cSt} {own : String} {cc : ByteArray} {nL : Nat} {pc : Nat} {ls : Array Slot} {rest : List Value} {H0 : Heap} {nF nR nC nS : Nat} {ret : Option FieldType} {a k index ci : Nat}
theorem cV_I (h : kIsR (kTy ci k) = false) : cV S a ci k = .int (kF S a k) := by unfold cV; rw [h]; rfl
theorem cV_R {x : Nat} (h : kIsR (kTy ci k) = true) (hx : kR S a k = some x) : cV S a ci k = .ref x := by unfold cV; rw [if_pos h, hx]; rfl
def ckq {α : Type} (S : cSt) (o : Option Nat) (kd : Nat) (K : Option α) : Option α := match o with | none => K | some x => ckk S x kd K
theorem ckq_ok {α : Type} {S : cSt} {o : Option Nat} {kd : Nat} {K : Option α} {r : α} (h : ckq S o kd K = some r) : (∀ x, o = some x → kK S x = kd) ∧ K = some r := by
  cases o with
  | none => exact ⟨fun x hx => (by cases hx), h⟩
  | some y => obtain ⟨h1, h2⟩ := ckk_ok (show ckk S y kd K = some r from h); exact ⟨fun x hx => (by cases hx; exact h1), h2⟩
theorem c_aastq {o : Option Nat} (C : cY p R s m args meth c own cc nL nF nC nS nR ret) (X : cX D s) (kd ci : Nat) (hc : ci < 12) (hkd : 30 ≤ kd) (hA : kAr D s kd (.object (kRn ci))) (hJ : cJ D S0 H0 S H locs) (hk : kK S a = kd) (hv : ∀ x, o = some x → kK S x = ci + 1) {i : Int32} (hin : vp_in i (kL S a)) (hdg : decode cc pc = .ok (.aastore, 1))
    (kk : ∀ (H1 : Heap) (locs1 : List Loc), cJ D S0 H0 (cWo S a i.toNatClampNeg o) H1 locs1 → W p l e R s m args below meth c H1 locs1 cells slots Q (F0 m (pc + 1) ls rest)) : W p l e R s m args below meth c H locs cells slots Q (F0 m pc ls (va_rf o :: .int i :: .ref a :: rest)) := by
  cases o with
  | none => exact c_aastN C kd hkd hA hJ hk hin hdg kk
  | some x => exact c_aast C X kd ci hc hkd hA hJ hk (hv x rfl) hin hdg kk
theorem nar_rf {o : Option Nat} {t : String} : narrow (.object t) (va_rf o) = va_rf o := by cases o <;> rfl
theorem nar_ra {o : Option Nat} {t : FieldType} : narrow (.array t) (va_rf o) = va_rf o := by cases o <;> rfl
theorem fit_rf {o : Option Nat} {t : String} : fits (.object t) (va_rf o) = true := by cases o <;> rfl
theorem fit_ra {o : Option Nat} {t : FieldType} : fits (.array t) (va_rf o) = true := by cases o <;> rfl
end CV
section CN
variable {p : Program} {l : Launch} {e : Env} {R : Room} {s : State} {m : MethodId} {args : Array Value} {below : List Frame} {meth : Method} {c : Code} {H : Heap} {locs : List Loc} {cells slots : Nat} {Q : State → Prop}
variable {D : cG} {S S0 S1 : cSt} {own host : String} {cc bytes : ByteArray} {nL maxL n fr lo mc ms index : Nat} {pc : Nat} {ls : Array Slot} {rest st0 : List Value} {H0 : Heap} {nF nR nC nS : Nat} {ret rt : Option FieldType} {y : MethodName} {ov : Option Value}
def cCn (own : String) (idx : Nat) (y : MethodName) (host : String) (bytes : ByteArray) (maxL : Nat) (rt : Option FieldType) (n : Nat) : Prop :=
  Cond.code y bytes maxL rt ∈ lw_g ∧ Cond.methodLinkNest own idx y host ∈ kNest ∧ Cond.initialized y.cls ∈ lw_g ∧ (y.cls ≠ "java/lang/invoke/MethodHandle" ∧ y.cls ≠ "java/lang/invoke/VarHandle" ∧ (parseMethodDescriptor y.desc).map (fun d => d.parameters.length) = some n)
theorem c_cn (C : cY p R s m args meth c own cc nL nF nC nS nR ret) (X : cX D s) (hw : cCn own index y host bytes maxL rt n) (hR : fr + 1 ≤ nF ∧ 8 + (maxL + 11) + lo ≤ nR) :
    va_CN R s args own index y host bytes maxL rt (Cond.code y bytes maxL rt :: lw_g) { frames := fr, cells := mc, slots := ms, locals := lo } mc ms n := by
  obtain ⟨h1, h2, h3, h4⟩ := hw
  exact va_cnB n C.2.2.2.2.1 (mt_in (mt_cons h1)) rfl rfl rfl (X.2.2.2.2.2.2.2.2.1 _ h2) (C.2.2.2.2.1 _ h3) h4 ⟨Nat.le_trans hR.1 C.2.2.2.2.2.1.1, Nat.le_trans hR.2 C.2.2.2.2.2.1.2.2.2⟩
theorem c_callSN (C : cY p R s m args meth c own cc nL nF nC nS nR ret) (X : cX D s) (hls : ls.size = nL) (As : List Value) (hM : Met l y (Cond.code y bytes maxL rt :: lw_g) { frames := fr, cells := 0, slots := 0, locals := lo } (mPs As) (kQ ov) 0 0 mNo) (hw : cCn own index y host bytes maxL rt n) (hs : Cond.static y ∈ lw_g) (hn : As.length = n)
    (hR : fr + 1 ≤ nF ∧ 8 + (maxL + 11) + lo ≤ nR) (hce : cells ≤ nC ∧ slots ≤ nS) (hst : st0 = As.reverse ++ rest) (hro : (rest.map fun v => v.category).sum ≤ 8) (hdg : decode cc pc = .ok (.invokestatic index, 3))
    (kk : W p l e R s m args below meth c H locs cells slots Q (F0 m (pc + 3) ls (ov.toList ++ rest))) : W p l e R s m args below meth c H locs cells slots Q (F0 m pc ls st0) :=
  c_same (va_runSN (As := As) (rest := rest) (Ts := lw_g) ⟨C.1, C.2.1, C.2.2.1, C.2.2.2.1, C.2.2.2.2.1⟩ hM ⟨c_cn C X hw hR, C.2.2.2.2.1 _ hs, trivial⟩ ⟨mPs.blind, fun _ _ _ => rfl⟩ rfl hn hls hst (lv_room hro) hdg ⟨Nat.le_trans hce.1 C.2.2.2.2.2.1.2.1, Nat.le_trans hce.2 C.2.2.2.2.2.1.2.2.1⟩) kk
theorem c_callIN (C : cY p R s m args meth c own cc nL nF nC nS nR ret) (X : cX D s) (hJ : cJ D S0 H0 S H locs) (hls : ls.size = nL) {b : Nat} (As : List Value) (hM : Met l y (Cond.code y bytes maxL none :: lw_g) { frames := fr, cells := mc, slots := ms, locals := lo } (kPi (.ref b :: As) D S) (kW none D S S1) mc ms (cA S)) (hw : cCn own index y host bytes maxL none n) (hi : Cond.instanceMethod y ∈ lw_g) (hy1 : y.name = "<init>") (hn : As.length = n)
    (hR : fr + 1 ≤ nF ∧ 8 + (maxL + 11) + lo ≤ nR) (hce : cells + mc ≤ nC ∧ slots + ms ≤ nS) (hst : st0 = As.reverse ++ .ref b :: rest) (hro : (rest.map fun v => v.category).sum ≤ 8) (hdg : decode cc pc = .ok (.invokespecial index, 3))
    (kk : ∀ (H1 : Heap) (locs1 : List Loc), cJ D S0 H0 S1 H1 locs1 → W p l e R s m args below meth c H1 locs1 (cells + mc) (slots + ms) Q (F0 m (pc + 3) ls rest)) : W p l e R s m args below meth c H locs cells slots Q (F0 m pc ls st0) :=
  c_moved (ov := none) (va_runIN (As := As) (rest := rest) (Ts := lw_g) ⟨C.1, C.2.1, C.2.2.1, C.2.2.2.1, C.2.2.2.2.1⟩ hM ⟨c_cn C X hw hR, hy1, C.2.2.2.2.1 _ hi⟩ ⟨kPi.blind, fun U hU hWm => ⟨rfl, by rw [hU]; exact hJ.1, X.warm hWm⟩⟩ rfl hn hls hst (lv_room hro) hdg ⟨Nat.le_trans hce.1 C.2.2.2.2.2.1.2.1, Nat.le_trans hce.2 C.2.2.2.2.2.1.2.2.1⟩) hJ kk
end CN
/-! System.arraycopy between arrays of numbers -/
theorem cJ.putL {D : cG} {S0 S S1 : cSt} {H0 H H1 : Heap} {locs L : List Loc} {a : Nat} (h : cJ D S0 H0 S H locs) (ha : kWr (kK S a)) (hK : S1.1 = S.1) (hZ : S1.2.2.2.2.2.2 = S.2.2.2.2.2.2) (z : H1.size = H.size) (oq : ∀ q : Nat, q ≠ a → H1[q]? = H[q]?) (hat : kAt D S1 H1 a)
    (hq : ∀ q : Nat, q ≠ a → kAt D S H q → kAt D S1 H q) (hL : ∀ q ∈ L, q.base = a) : cJ D S0 H0 S1 H1 (locs ++ L) := by
  have hin := h.in ha
  have h2 := h.put (k := 0) ha hK hZ z oq hat hq
  refine ⟨h2.1, h2.2.1, fun q hq => ?_, h2.2.2.2⟩
  rcases List.mem_append.mp hq with h9 | h9
  · exact h.2.2.1 q h9
  · rw [hL q h9]; exact hin
section CC
variable {p : Program} {l : Launch} {e : Env} {R : Room} {s : State} {m : MethodId} {args : Array Value} {below : List Frame} {meth : Method} {c : Code} {H : Heap} {locs : List Loc} {cells slots : Nat} {Q : State → Prop}
variable {D : cG} {S S0 : cSt} {own : String} {cc : ByteArray} {nL : Nat} {pc : Nat} {ls : Array Slot} {rest : List Value} {H0 : Heap} {nF nR nC nS : Nat} {ret : Option FieldType} {a a0 index : Nat}
theorem c_copy (C : cY p R s m args meth c own cc nL nF nC nS nR ret) (hls : ls.size = nL) (hlink : Cond.methodLink own index arraycopyName ∈ lw_g) (hnat : Cond.native arraycopyName ∈ lw_g) (hstat : Cond.static arraycopyName ∈ lw_g) (hini : Cond.initialized "java/lang/System" ∈ lw_g) (kd : Nat) (q1 : 20 ≤ kd) (q9 : kd < 23) {ty : FieldType} (hA : kAr D s kd ty) (hprim : refKind ty = false) (hJ : cJ D S0 H0 S H locs) (hk0 : kK S a0 = kd) (hk1 : kK S a = kd)
    {sp dp n : Int32} (h : (¬ sp < 0 ∧ ¬ dp < 0 ∧ ¬ n < 0) ∧ sp.toNatClampNeg + n.toNatClampNeg ≤ kL S a0 ∧ dp.toNatClampNeg + n.toNatClampNeg ≤ kL S a) (hfit : ∀ i, i < n.toNatClampNeg → fits ty (.int (kI S a0 (sp.toNatClampNeg + i))) = true)
    (hfr : 1 ≤ nF) (hlo : (rest.map fun v => v.category).sum + (nativeFrameWords "java/lang/System" "arraycopy" 5 + 11) ≤ nR) (hdg : decode cc pc = .ok (.invokestatic index, 3))
    (kk : ∀ (H1 : Heap) (locs1 : List Loc), cJ D S0 H0 (cCp S a0 sp.toNatClampNeg a dp.toNatClampNeg n.toNatClampNeg) H1 locs1 → W p l e R s m args below meth c H1 locs1 cells slots Q (F0 m (pc + 3) ls rest)) : W p l e R s m args below meth c H locs cells slots Q (F0 m pc ls (.int n :: .int dp :: .ref a :: .int sp :: .ref a0 :: rest)) := by
  have q2 : kd < 30 := by omega
  obtain ⟨hx, hb, hml, hown, hts, hR, -⟩ := C
  obtain ⟨⟨h1, h2, h3⟩, h4, h5⟩ := h
  have nn : ∀ z : Int32, ¬ z < 0 → z.toInt = (z.toNatClampNeg : Int) := by
    intro z hz
    have hz0 : (0 : Int) ≤ z.toInt := by
      have := Int32.not_lt.mp hz
      simpa using Int32.le_iff_toInt_le.mp this
    show z.toInt = ((z.toInt.toNat : Nat) : Int)
    omega
  intro T hT X
  have hc0 : H[a0]? = some (vp_cell (D.2.2.1 kd) (kL S a0, .inl (kI S a0))) := hJ.1.ints hk0 q1 q9
  have hc1 : H[a]? = some (vp_cell (D.2.2.1 kd) (kL S a, .inl (kI S a))) := hJ.1.ints hk1 q1 q9
  obtain ⟨-, k0, hk0', cm0, hkk0⟩ := hA.1 (kL S a0) (fun j => .int (kI S a0 j))
  obtain ⟨vm', X', step⟩ := X.arraycopy hx hown (hts _ hlink) (hts _ hnat) (hts _ hstat) (hts _ hini) (src := a0) (dst := a) (cs := vp_cell (D.2.2.1 kd) (kL S a0, .inl (kI S a0))) (cd := vp_cell (D.2.2.1 kd) (kL S a, .inl (kI S a))) (srcPos := sp) (destPos := dp) (n := n) (by rw [hT]; exact hc0) (by rw [hT]; exact hc1)
    (fun _ h => by cases h) (fun _ h => by cases h) (fun h => by cases h) (fun h => by cases h) hk0' hk0' hkk0 hkk0 (by simp [hprim]) h1 h2 h3
    (by rw [nn sp h1, nn n h3]; show ¬ _ > ((arrV _ (kL S a0) (fun j => .int (kI S a0 j))).slots.size : Int); rw [arrV_size]; omega)
    (by rw [nn dp h2, nn n h3]; show ¬ _ > ((arrV _ (kL S a) (fun j => .int (kI S a j))).slots.size : Int); rw [arrV_size]; omega)
    (fun vm₁ _ i hi => by
      have e : (vp_cell (D.2.2.1 kd) (kL S a0, .inl (kI S a0))).slots.getD (sp.toNatClampNeg + i) .null = .int (kI S a0 (sp.toNatClampNeg + i)) := by
        show (arrV _ (kL S a0) (fun j => .int (kI S a0 j))).slots.getD _ _ = _
        rw [Array.getD_eq_getD_getElem?, arrV_read _ _ (by omega)]
        rfl
      refine ⟨?_, ?_⟩
      · rw [e]
        exact hfit i hi
      · rw [e]
        exact trivial)
    (g := F0 m pc ls (.int n :: .int dp :: .ref a :: .int sp :: .ref a0 :: rest)) rfl (by rw [hml]; exact hls) (rest := rest) rfl (by rw [hb]; exact hdg) (Nat.le_trans hfr hR.1) (by show 2 * 0 + _ + _ ≤ _; have := hR.2.2.2; omega)
  have e1 : copied (vp_cell (D.2.2.1 kd) (kL S a0, .inl (kI S a0))) (vp_cell (D.2.2.1 kd) (kL S a, .inl (kI S a))) sp dp n = vp_cell (D.2.2.1 kd) (kL S a, .inl (va_cpy (kI S a0) (kI S a) sp.toNatClampNeg dp.toNatClampNeg n.toNatClampNeg)) := va_copied (fun z => .int z) _ _ (kI S a0) (kI S a) h4
  rw [e1] at X' step
  have hl : a < H.size := (Array.getElem?_eq_some_iff.mp hc1).1
  generalize hcell : vp_cell (D.2.2.1 kd) (kL S a, .inl (va_cpy (kI S a0) (kI S a) sp.toNatClampNeg dp.toNatClampNeg n.toNatClampNeg)) = cell at X' step
  have hheap : ((T.setVm vm').setCell a cell).heap = H.setIfInBounds a cell := by rw [← hT]; rfl
  have oq : ∀ q : Nat, q ≠ a → (H.setIfInBounds a cell)[q]? = H[q]? := fun q hq => by simp [Array.getElem?_setIfInBounds, Ne.symm hq]
  have ea : (H.setIfInBounds a cell)[a]? = some cell := by simp [Array.getElem?_setIfInBounds, hl]
  have hat : kAt D (cCp S a0 sp.toNatClampNeg a dp.toNatClampNeg n.toNatClampNeg) (H.setIfInBounds a cell) a := by
    have hkk : kK (cCp S a0 sp.toNatClampNeg a dp.toNatClampNeg n.toNatClampNeg) a = kd := hk1
    refine ⟨fun c' hc' hl' => by omega, fun x9 y9 => ?_, fun x9 => by omega, fun x9 => by omega⟩
    rw [hkk, ea, ← hcell, vp_cell_i]
    show some (arrV _ (kL S a) _) = some (arrV _ (kL S a) _)
    congr 2
    funext q
    simp [kI, cCp, upr]
    rfl
  obtain ⟨t, a1, b1⟩ := kk _ _ (hJ.putL (by rw [hk1]; unfold kWr; omega) rfl rfl (by simp) oq hat (fun q hq hw => c_oth (S := S) (S1 := cCp S a0 sp.toNatClampNeg a dp.toNatClampNeg n.toNatClampNeg) rfl rfl rfl rfl (by simp [cCp, upr, hq]) rfl hw) (fun q hq => by
      obtain ⟨z, -, hz⟩ := List.mem_map.mp hq
      rw [← hz])) _ hheap X'
  exact ⟨t, step t a1, b1⟩
theorem c_retar {t9 : FieldType} (C : cY p R s m args meth c own cc nL nF nC nS nR (some (.array t9))) {o : Option Nat} (hJ : cJ D S0 s.heap S H locs) (hdg : decode cc pc = .ok (.areturn, 1)) : W p l e R s m args below meth c H locs cells slots (MQ below (kW (some (va_rf o)) D S0 S) args s cells slots (cA S0)) (F0 m pc ls [va_rf o]) := by
  have hlocks := C.2.2.2.2.2.2.2
  exact W.aret C.1 C.2.1 C.2.2.2.2.2.2.1 (Or.inr ⟨_, rfl⟩) (kref o) (fun t ht _ => c_end hJ ht) hJ.2.2.1 hdg
end CC
section CS
variable {p : Program} {l : Launch} {e : Env} {R : Room} {s : State} {m : MethodId} {args : Array Value} {below : List Frame} {meth : Method} {c : Code} {H : Heap} {locs : List Loc} {cells slots : Nat} {Q : State → Prop}
variable {D : cG} {S S0 : cSt} {own : String} {cc : ByteArray} {nL : Nat} {pc : Nat} {ls : Array Slot} {rest : List Value} {H0 : Heap} {nF nR nC nS : Nat} {ret : Option FieldType} {a a0 index : Nat}
theorem c_gets {C9 n d : String} {P : Value → Prop} (C : cY p R s m args meth c own cc nL nF nC nS nR ret) (hZ : kSt D s C9 n d P) (hW : cW D S H) (hl : Cond.fieldLink own index C9 n d ∈ lw_g) (hdg : decode cc pc = .ok (.getstatic index, 3))
    (kk : ∀ v, P v → W p l e R s m args below meth c H locs cells slots Q (F0 m (pc + 3) ls (v :: rest))) : W p l e R s m args below meth c H locs cells slots Q (F0 m pc ls rest) := by
  obtain ⟨cf, kf, fi, f, a, cell, v, h1, h2, h3, h4, h5, h6, h7, h8⟩ := hZ
  exact W.gets C.1 C.2.1 C.2.2.2.1 (C.2.2.2.2.1 _ hl) h1 h2 h3 h4 (hW.2.2.2.1 a cell h5).1 (fun e => by rw [e] at h6; cases h6) h7 rfl hdg (kk v h8)
theorem c_ldcs (C : cY p R s m args meth c own cc nL nF nC nS nR ret) (X : cX D s) (hW : cW D S H) {tx : String} (i : Nat) (hq : (own, index, tx, i) ∈ kLits) (hdg : decode cc pc = .ok (.ldc index, 2))
    (kk : W p l e R s m args below meth c H locs cells slots Q (F0 m (pc + 2) ls (.ref (kT S i) :: rest))) : W p l e R s m args below meth c H locs cells slots Q (F0 m pc ls rest) :=
  va_ldcS C.1 C.2.1 C.2.2.2.1 (X.2.2.2.2.2.2.2.2.2.2.2.2 _ hq) hdg (by rw [← hW.2.2.2.2 i]; exact kk)
theorem c_ldcsw (C : cY p R s m args meth c own cc nL nF nC nS nR ret) (X : cX D s) (hW : cW D S H) {tx : String} (i : Nat) (hq : (own, index, tx, i) ∈ kLits) (hdg : decode cc pc = .ok (.ldc_w index, 3))
    (kk : W p l e R s m args below meth c H locs cells slots Q (F0 m (pc + 3) ls (.ref (kT S i) :: rest))) : W p l e R s m args below meth c H locs cells slots Q (F0 m pc ls rest) := by
  have hZ := X.2.2.2.2.2.2.2.2.2.2.2.2 _ hq
  intro T hT Y
  obtain ⟨t, a1, b1⟩ := kk T hT Y
  rw [hW.2.2.2.2 i] at a1
  exact ⟨t, Y.ldcStringW C.1 C.2.2.2.1 (text := tx) (a := D.2.2.2.2 i) hZ.1 hZ.2 (g := F0 m pc ls rest) rfl (by rw [C.2.1]; exact hdg) t a1, b1⟩
theorem c_sald (C : cY p R s m args meth c own cc nL nF nC nS nR ret) (X : cX D s) (hW : cW D S H) (hk : kK S a = 23) {i : Int32} (hin : vp_in i (kL S a)) (hdg : decode cc pc = .ok (.baload, 1))
    (kk : W p l e R s m args below meth c H locs cells slots Q (F0 m (pc + 1) ls (.int (kI S a i.toNatClampNeg) :: rest))) : W p l e R s m args below meth c H locs cells slots Q (F0 m pc ls (.int i :: .ref a :: rest)) :=
  by
  obtain ⟨cell, q1, q2, q3, -, q5⟩ := (hW.2.2.1 a).2.2.2 (Or.inr hk)
  obtain ⟨g1, g2, g3⟩ := q5 hk
  exact W.bald C.1 C.2.1 q1 (c_isA X.2.2.2.2.2.2.2.2.2.1 g1 q2) q3 (fun q => hin (q.imp id (fun q => Nat.le_trans g2.1 q))) (g3 _ (Nat.not_le.mp fun q => hin (Or.inr q))) rfl rfl hdg kk
end CS
