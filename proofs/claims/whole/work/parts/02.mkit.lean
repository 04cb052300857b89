/-! part 02: the reference's own picture. A state of it is S : ints by field number, contents of its arrays by field number and place. -/
abbrev mSt : Type := (Nat → Int32) × (Nat → Nat → Int32)
/-- the length of the array in a field (0: a field of an int), and what it holds -/
def mLen : Nat → Nat := fun k => match k with
  | 2 => 40
  | 5 => 8
  | 6 => 48
  | 7 => 4
  | 8 => 4
  | 9 => 1000
  | 10 => 1000
  | 11 => 1000
  | 12 => 1000
  | 13 => 1000
  | 14 => 1000
  | 15 => 1000
  | 16 => 4000
  | 17 => 4
  | 18 => 4
  | 19 => 4
  | 20 => 16
  | 21 => 64
  | 22 => 64
  | 23 => 4
  | 24 => 4000
  | 25 => 4
  | 26 => 120
  | 27 => 4
  | 28 => 1000
  | 29 => 1000
  | 30 => 1000
  | 31 => 64
  | 32 => 16
  | 33 => 16
  | 34 => 16
  | 35 => 16
  | 36 => 16
  | 37 => 4
  | 38 => 800
  | 39 => 800
  | 40 => 800
  | 41 => 800
  | 46 => 38400
  | 47 => 1000
  | 48 => 1000
  | 50 => 1000
  | 51 => 1000
  | 53 => 1000
  | 55 => 48
  | 56 => 48
  | 58 => 1000
  | 60 => 1000
  | 62 => 1000
  | 63 => 1000
  | 64 => 48
  | 65 => 192
  | 66 => 4
  | 68 => 48
  | 71 => 41041
  | 72 => 1000
  | 73 => 1000
  | 75 => 640
  | 76 => 640
  | 78 => 48
  | 79 => 48
  | _ => 0
def mTy : Nat → FieldType := fun k => match k with
  | 32 => .boolean
  | 47 => .boolean
  | _ => .int
def mCl (cI cZ : ClassId) (k : Nat) : ClassId := if mTy k = .boolean then cZ else cI
def mV (ad : Nat → Nat) (i : Nat → Int32) (k : Nat) : Value := if mLen k = 0 then .int (i k) else .ref (ad k)
/-- the heap holds the reference mo with its arrays at ad, in the state S -/
def mW (cM : ClassId) (iS : Nat → Nat) (cI cZ : ClassId) (mo : Nat) (ad : Nat → Nat) (S : mSt) (H : Heap) : Prop :=
  t_OB mo cM 80 iS H (mV ad S.1) ∧ ∀ k, mLen k ≠ 0 → H[ad k]? = some (arrV (mCl cI cZ k) (mLen k) (fun j => .int (S.2 k j)))
def mD (mo : Nat) (ad : Nat → Nat) : Prop := (∀ k, mLen k ≠ 0 → ad k ≠ mo) ∧ ∀ j k, mLen j ≠ 0 → mLen k ≠ 0 → ad j = ad k → j = k
def mA (mo : Nat) (ad : Nat → Nat) : Nat → Prop := fun q => q = mo ∨ ∃ k, mLen k ≠ 0 ∧ q = ad k
def mK (cM : ClassId) (iS : Nat → Nat) (cI cZ : ClassId) (U : State) : Prop := u_Kn U RX12 TX12 80 cM iS ∧ ArrOfT U cI .int ∧ ArrOfT U cZ .boolean
theorem mK.moved {cM : ClassId} {iS : Nat → Nat} {cI cZ : ClassId} {u U : State} (hvm : u.vm.Alike U.vm) (h : mK cM iS cI cZ u) : mK cM iS cI cZ U := ⟨u_Kn_moved hvm h.1, arrOfT_moved hvm h.2.1, arrOfT_moved hvm h.2.2⟩
def mS (A : Nat → Prop) (H0 H : Heap) (locs : List Loc) : Prop := H.size = H0.size ∧ (∀ q : Nat, ¬ A q → H[q]? = H0[q]?) ∧ ∀ l ∈ locs, A l.base
theorem mS.rf {A : Nat → Prop} {H : Heap} : mS A H H [] := ⟨rfl, fun _ _ => rfl, fun _ h => by cases h⟩
theorem mS.put {A : Nat → Prop} {H0 H H1 : Heap} {locs : List Loc} {a k : Nat} (h : mS A H0 H locs) (z : H1.size = H.size) (oq : ∀ q : Nat, q ≠ a → H1[q]? = H[q]?) (ha : A a) : mS A H0 H1 (locs ++ [⟨a, k⟩]) := by
  refine ⟨z.trans h.1, fun q hq => ?_, fun q hq => ?_⟩
  · rw [oq q (fun e => hq (by rw [e]; exact ha))]
    exact h.2.1 q hq
  · rcases List.mem_append.mp hq with h1 | h1
    · exact h.2.2 q h1
    · rw [List.mem_singleton.mp h1]
      exact ha
/-- a read of array k at place i; a write -/
def rd (S : mSt) (k : Nat) (i : Int32) : Int32 := S.2 k i.toNatClampNeg
def wr (S : mSt) (k : Nat) (i x : Int32) : mSt := (S.1, fun j => if j = k then upd (S.2 k) i.toNatClampNeg x else S.2 j)
def pu (S : mSt) (k : Nat) (x : Int32) : mSt := (upd S.1 k x, S.2)
/-- an index that is looked at; a number that is 0 or 1; a name for a value; answers in turn -/
def ck {α : Type} (i : Int32) (n : Nat) (K : Option α) : Option α := if i < 0 ∨ n ≤ i.toNatClampNeg then none else K
def ckz {α : Type} (i : Int32) (K : Option α) : Option α := if i = 0 ∨ i = 1 then K else none
def ckn {α : Type} (i : Int32) (K : Option α) : Option α := if i = 0 then none else K
def lt {α β : Type} (x : α) (K : α → Option β) : Option β := K x
def bd {α β : Type} (x : Option α) (K : α → Option β) : Option β := match x with | none => none | some y => K y
theorem ck_ok {α : Type} {i : Int32} {n : Nat} {K : Option α} {r : α} (h : ck i n K = some r) : vp_in i n ∧ K = some r := by
  unfold ck at h
  split at h
  · cases h
  · rename_i hn; exact ⟨hn, h⟩
theorem ckz_ok {α : Type} {i : Int32} {K : Option α} {r : α} (h : ckz i K = some r) : (i = 0 ∨ i = 1) ∧ K = some r := by
  unfold ckz at h
  split at h
  · rename_i hn; exact ⟨hn, h⟩
  · cases h
theorem ckn_ok {α : Type} {i : Int32} {K : Option α} {r : α} (h : ckn i K = some r) : i ≠ 0 ∧ K = some r := by
  unfold ckn at h
  split at h
  · cases h
  · rename_i hn; exact ⟨hn, h⟩
theorem lt_ok {α β : Type} {x : α} {K : α → Option β} {r : β} {G : Prop} (h : lt x K = some r) (k : ∀ y, x = y → K y = some r → G) : G := k x rfl h
theorem bd_ok {α β : Type} {x : Option α} {K : α → Option β} {r : β} (h : bd x K = some r) : ∃ y, x = some y ∧ K y = some r := by
  cases x with
  | none => cases h
  | some y => exact ⟨y, rfl, h⟩
theorem if_t {α : Type} {c : Prop} {d : Decidable c} {a b : Option α} {r : α} (h : (if c then a else b) = some r) (hc : c) : a = some r := by rw [if_pos hc] at h; exact h
theorem if_f {α : Type} {c : Prop} {d : Decidable c} {a b : Option α} {r : α} (h : (if c then a else b) = some r) (hc : ¬ c) : b = some r := by rw [if_neg hc] at h; exact h
def mFU : Nat := 200000
set_option maxRecDepth 100000 in
theorem mt_lays : ∀ w ∈ u_ws RX12 TX12 80, w ∈ lw_g := mt_list [1774, 1776, 1778, 1780, 1782, 1784, 1786, 1788, 1790, 1792, 1794, 1796, 1798, 1800, 1802, 1804, 1806, 1808, 1810, 1812, 1814, 1816, 1818, 1820, 1822, 1824, 1826, 1828, 1830, 1832, 1834, 1836, 1838, 1840, 1842, 1844, 1846, 1848, 1850, 1852, 1854, 1856, 1858, 1860, 1862, 1864, 1866, 1868, 1870, 1872, 1874, 1876, 1878, 1880, 1882, 1884, 1886, 1888, 1890, 1892, 1894, 1896, 1898, 1900, 1902, 1904, 1906, 1908, 1910, 1912, 1914, 1916, 1918, 1920, 1922, 1924, 1926, 1928, 1930, 1932] (by decide +kernel) (by decide +kernel)
section MK
variable {p : Program} {l : Launch} {e : Env} {R : Room} {s : State} {m : MethodId} {args : Array Value} {below : List Frame} {meth : Method} {c : Code} {H : Heap} {locs : List Loc} {cells slots : Nat} {Q : State → Prop}
variable {cM : ClassId} {iS : Nat → Nat} {cI cZ : ClassId} {mo : Nat} {ad : Nat → Nat} {S : mSt} {cc : ByteArray} {nL : Nat} {pc : Nat} {ls : Array Slot} {rest : List Value} {H0 : Heap}
/-- what holds all through a method of the reference: the machine, its code, its room; then the tables and the picture's places -/
def mY (p : Program) (R : Room) (s : State) (m : MethodId) (args : Array Value) (meth : Method) (c : Code) (cc : ByteArray) (nL nF nR : Nat) (ret : Option FieldType) : Prop :=
  p.tables.exec = Jvm.exec ∧ c.code = cc ∧ c.maxLocals = nL ∧ s.vm.findClass RX12 = some m.cls ∧ (∀ w ∈ lw_g, w.before args s = true) ∧ (nF ≤ R.frames ∧ nR ≤ R.locals) ∧ meth.sig.returnType = ret ∧ meth.locks = false
def mX (s : State) (cM : ClassId) (iS : Nat → Nat) (cI cZ : ClassId) (mo : Nat) (ad : Nat → Nat) : Prop := mK cM iS cI cZ s ∧ mD mo ad
variable {nF nR : Nat} {ret : Option FieldType}
theorem mW.kept {H1 : Heap} (h : mW cM iS cI cZ mo ad S H) (hq : ∀ q, mA mo ad q → H1[q]? = H[q]?) : mW cM iS cI cZ mo ad S H1 :=
  ⟨h.1.kept (hq mo (Or.inl rfl)), fun k hk => by rw [hq (ad k) (Or.inr ⟨k, hk, rfl⟩)]; exact h.2 k hk⟩
theorem m_get (C : mY p R s m args meth c cc nL nF nR ret) (X : mX s cM iS cI cZ mo ad) (hW : mW cM iS cI cZ mo ad S H) (k : Nat) (hk : k < 80) {index : Nat} (hl : Cond.fieldLink RX12 index (TX12 k).1 (TX12 k).2.1 (TX12 k).2.2.1 ∈ lw_g) (hdg : decode cc pc = .ok (.getfield index, 3))
    (kk : W p l e R s m args below meth c H locs cells slots Q (F0 m (pc + 3) ls (mV ad S.1 k :: rest))) : W p l e R s m args below meth c H locs cells slots Q (F0 m pc ls (.ref mo :: rest)) := by
  obtain ⟨hx, hb, -, hown, hts, -⟩ := C
  obtain ⟨⟨⟨hS, hfc, kC, hkC, hkind⟩, -⟩, -⟩ := X
  obtain ⟨cell, q1, q2, q3, q4⟩ := hW.1
  obtain ⟨cf, kf, fi, f, hi, hsl⟩ := hS k hk
  refine W.getf hx hb hown (hts _ hl) hi (u_facts hfc hkC (u_lays hts mt_lays hk) hi).1 q1 (by rw [q3]; exact fun h => by cases h) (v := mV ad S.1 k) ?_ rfl rfl hdg kk
  rw [hsl, q4 k hk]
theorem m_getI (C : mY p R s m args meth c cc nL nF nR ret) (X : mX s cM iS cI cZ mo ad) (hW : mW cM iS cI cZ mo ad S H) (k : Nat) (hk : k < 80) (hz : mLen k = 0) {index : Nat} (hl : Cond.fieldLink RX12 index (TX12 k).1 (TX12 k).2.1 (TX12 k).2.2.1 ∈ lw_g) (hdg : decode cc pc = .ok (.getfield index, 3))
    (kk : W p l e R s m args below meth c H locs cells slots Q (F0 m (pc + 3) ls (.int (S.1 k) :: rest))) : W p l e R s m args below meth c H locs cells slots Q (F0 m pc ls (.ref mo :: rest)) :=
  m_get C X hW k hk hl hdg (by unfold mV; rw [if_pos hz]; exact kk)
theorem m_getA (C : mY p R s m args meth c cc nL nF nR ret) (X : mX s cM iS cI cZ mo ad) (hW : mW cM iS cI cZ mo ad S H) (k : Nat) (hk : k < 80) (hz : mLen k ≠ 0) {index : Nat} (hl : Cond.fieldLink RX12 index (TX12 k).1 (TX12 k).2.1 (TX12 k).2.2.1 ∈ lw_g) (hdg : decode cc pc = .ok (.getfield index, 3))
    (kk : W p l e R s m args below meth c H locs cells slots Q (F0 m (pc + 3) ls (.ref (ad k) :: rest))) : W p l e R s m args below meth c H locs cells slots Q (F0 m pc ls (.ref mo :: rest)) :=
  m_get C X hW k hk hl hdg (by unfold mV; rw [if_neg hz]; exact kk)
theorem m_put (C : mY p R s m args meth c cc nL nF nR ret) (X : mX s cM iS cI cZ mo ad) (hW : mW cM iS cI cZ mo ad S H) (hS0 : mS (mA mo ad) H0 H locs) (k : Nat) (hk : k < 80) (hz : mLen k = 0) (hfin : (TX12 k).2.2.2 = false) (hty : parseFieldDescriptor (TX12 k).2.2.1 = some .int) {x : Int32} {index : Nat} (hl : Cond.fieldLink RX12 index (TX12 k).1 (TX12 k).2.1 (TX12 k).2.2.1 ∈ lw_g) (hdg : decode cc pc = .ok (.putfield index, 3))
    (kk : ∀ (H1 : Heap) (locs1 : List Loc), mW cM iS cI cZ mo ad (pu S k x) H1 → mS (mA mo ad) H0 H1 locs1 → W p l e R s m args below meth c H1 locs1 cells slots Q (F0 m (pc + 3) ls rest)) : W p l e R s m args below meth c H locs cells slots Q (F0 m pc ls (.int x :: .ref mo :: rest)) := by
  obtain ⟨hx, hb, -, hown, hts, -⟩ := C
  obtain ⟨⟨⟨hS, hfc, kC, hkC, hkind⟩, -⟩, hD⟩ := X
  obtain ⟨cell, q1, q2, q3, q4⟩ := hW.1
  obtain ⟨cf, kf, fi, f, hi, hsl⟩ := hS k hk
  have hap : ∀ x y, x < 80 → y < 80 → x ≠ y → iS x ≠ iS y := by
    intro x y hx hy hne
    obtain ⟨_, _, _, fa, hia, ea⟩ := hS x hx
    obtain ⟨_, _, _, fb, hib, eb⟩ := hS y hy
    rw [← ea, ← eb]
    refine u_apart (u_lays hts mt_lays hx) (u_lays hts mt_lays hy) hia hib ?_
    rw [(State.fieldFound?_type hia (tyX12_ok x hx)).1, (State.fieldFound?_type hib (tyX12_ok y hy)).1]
    exact nmX12 x hx y hy hne
  have hlay := hts _ (mt_lays _ (u_in_lay hk))
  unfold u_lay at hlay
  rw [if_neg (by rw [hfin]; decide)] at hlay
  have hst := (u_facts hfc hkC (u_lays hts mt_lays hk) hi).1
  have h6 := u_store (v := .int x) hfc hkC hkind hlay hi hty rfl rfl
  refine W.putK hx hb (f := f) ⟨hown, hts _ hl, ⟨_, _, _, hi⟩, hst⟩ (by rw [q2]; exact h6) q1 q3 (by rw [hsl]; exact k2_hasslot (q4 k hk)) rfl rfl hdg fun H' e1 e2 e3 => ?_
  rw [hsl] at e1 ⊢
  refine kk H' _ ⟨t_OB.to (V := updV (mV ad S.1) k (.int x)) ⟨_, e1, q2, q3, t_set q4 hap hk _⟩ (fun j _ => ?_), fun j hj => ?_⟩ (hS0.put e2 e3 (Or.inl rfl))
  · unfold updV mV pu upd
    by_cases hjk : j = k
    · subst hjk; simp [hz]
    · simp [hjk]
  · rw [e3 _ (hD.1 j hj)]
    exact hW.2 j hj
theorem m_ald (C : mY p R s m args meth c cc nL nF nR ret) (X : mX s cM iS cI cZ mo ad) (hW : mW cM iS cI cZ mo ad S H) (k n : Nat) (hn : mLen k = n) (hz : n ≠ 0) (ht : mTy k = .int) {i : Int32} (hin : vp_in i n) (hdg : decode cc pc = .ok (.iaload, 1))
    (kk : W p l e R s m args below meth c H locs cells slots Q (F0 m (pc + 1) ls (.int (rd S k i) :: rest))) : W p l e R s m args below meth c H locs cells slots Q (F0 m pc ls (.int i :: .ref (ad k) :: rest)) := by
  have hlt : i.toNatClampNeg < n := Nat.not_le.mp fun q => hin (Or.inr q)
  subst hn
  have hc : mCl cI cZ k = cI := by unfold mCl; rw [ht]; rfl
  have h1 := hW.2 k hz
  rw [hc] at h1
  exact W.iald (v := .int (rd S k i)) C.1 C.2.1 h1 (X.1.2.1 _ _) (fun q => by cases q) (by show ¬ (i < 0 ∨ (arrV _ _ _).slots.size ≤ _); rw [arrV_size]; exact hin) (by show (arrV _ _ _).slots[_]? = _; rw [arrV_read _ _ hlt]; rfl) rfl rfl hdg kk
theorem m_zald (C : mY p R s m args meth c cc nL nF nR ret) (X : mX s cM iS cI cZ mo ad) (hW : mW cM iS cI cZ mo ad S H) (k n : Nat) (hn : mLen k = n) (hz : n ≠ 0) (ht : mTy k = .boolean) {i : Int32} (hin : vp_in i n) (hdg : decode cc pc = .ok (.baload, 1))
    (kk : W p l e R s m args below meth c H locs cells slots Q (F0 m (pc + 1) ls (.int (rd S k i) :: rest))) : W p l e R s m args below meth c H locs cells slots Q (F0 m pc ls (.int i :: .ref (ad k) :: rest)) := by
  have hlt : i.toNatClampNeg < n := Nat.not_le.mp fun q => hin (Or.inr q)
  subst hn
  have hc : mCl cI cZ k = cZ := by unfold mCl; rw [ht]; rfl
  have h1 := hW.2 k hz
  rw [hc] at h1
  exact W.zald (v := .int (rd S k i)) C.1 C.2.1 h1 (X.1.2.2 _ _) (fun q => by cases q) (by show ¬ (i < 0 ∨ (arrV _ _ _).slots.size ≤ _); rw [arrV_size]; exact hin) (by show (arrV _ _ _).slots[_]? = _; rw [arrV_read _ _ hlt]; rfl) rfl rfl hdg kk
theorem m_wr {H1 : Heap} {k : Nat} {i x : Int32} (hD : mD mo ad) (hW : mW cM iS cI cZ mo ad S H) (hz : mLen k ≠ 0) (e : H1[ad k]? = some ((arrV (mCl cI cZ k) (mLen k) (fun j => .int (S.2 k j))).setSlot i.toNatClampNeg (.int x))) (oq : ∀ q : Nat, q ≠ ad k → H1[q]? = H[q]?) : mW cM iS cI cZ mo ad (wr S k i x) H1 := by
  refine ⟨hW.1.kept (oq mo (fun h => hD.1 k hz h.symm)), fun j hj => ?_⟩
  by_cases hjk : j = k
  · subst hjk
    rw [e, arrV_store]
    congr 2
    funext q
    by_cases hq : q = i.toNatClampNeg
    · subst hq; simp [updV, wr, upd]
    · simp [updV, wr, upd, hq]
  · rw [oq _ (fun h => hjk (hD.2 j k hj hz h)), hW.2 j hj]
    simp [wr, hjk]
theorem m_ast (C : mY p R s m args meth c cc nL nF nR ret) (X : mX s cM iS cI cZ mo ad) (hW : mW cM iS cI cZ mo ad S H) (hS0 : mS (mA mo ad) H0 H locs) (k n : Nat) (hn : mLen k = n) (hz : n ≠ 0) (ht : mTy k = .int) {i x : Int32} (hin : vp_in i n) (hdg : decode cc pc = .ok (.iastore, 1))
    (kk : ∀ (H1 : Heap) (locs1 : List Loc), mW cM iS cI cZ mo ad (wr S k i x) H1 → mS (mA mo ad) H0 H1 locs1 → W p l e R s m args below meth c H1 locs1 cells slots Q (F0 m (pc + 1) ls rest)) : W p l e R s m args below meth c H locs cells slots Q (F0 m pc ls (.int x :: .int i :: .ref (ad k) :: rest)) := by
  subst hn
  have hc : mCl cI cZ k = cI := by unfold mCl; rw [ht]; rfl
  have h1 := hW.2 k hz
  refine W.iast C.1 C.2.1 h1 (by rw [hc]; exact X.1.2.1 _ _) (fun q => by cases q) (by show ¬ (i < 0 ∨ (arrV _ _ _).slots.size ≤ _); rw [arrV_size]; exact hin) rfl rfl hdg fun H1 e z oq => ?_
  exact kk H1 _ (m_wr X.2 hW hz e oq) (hS0.put z oq (Or.inr ⟨k, hz, rfl⟩))
theorem m_zast (C : mY p R s m args meth c cc nL nF nR ret) (X : mX s cM iS cI cZ mo ad) (hW : mW cM iS cI cZ mo ad S H) (hS0 : mS (mA mo ad) H0 H locs) (k n : Nat) (hn : mLen k = n) (hz : n ≠ 0) (ht : mTy k = .boolean) {i x : Int32} (hx : x = 0 ∨ x = 1) (hin : vp_in i n) (hdg : decode cc pc = .ok (.bastore, 1))
    (kk : ∀ (H1 : Heap) (locs1 : List Loc), mW cM iS cI cZ mo ad (wr S k i x) H1 → mS (mA mo ad) H0 H1 locs1 → W p l e R s m args below meth c H1 locs1 cells slots Q (F0 m (pc + 1) ls rest)) : W p l e R s m args below meth c H locs cells slots Q (F0 m pc ls (.int x :: .int i :: .ref (ad k) :: rest)) := by
  subst hn
  have hc : mCl cI cZ k = cZ := by unfold mCl; rw [ht]; rfl
  have h1 := hW.2 k hz
  have hx2 : narrow .boolean (.int x) = .int x := by rcases hx with h | h <;> (rw [h]; rfl)
  refine W.zast C.1 C.2.1 h1 (by rw [hc]; exact X.1.2.2 _ _) (fun q => by cases q) (by show ¬ (i < 0 ∨ (arrV _ _ _).slots.size ≤ _); rw [arrV_size]; exact hin) rfl rfl hdg fun H1 e z oq => ?_
  rw [hx2] at e
  exact kk H1 _ (m_wr X.2 hW hz e oq) (hS0.put z oq (Or.inr ⟨k, hz, rfl⟩))
/-! ends, and calls -/
def mQi (r : Int32) : Array Value → State → Outcome → State → Prop := fun _ st o t => o = .returned (some (.int r)) ∧ t.heap = st.heap
def mQw (o' : Option Value) (cM : ClassId) (iS : Nat → Nat) (cI cZ : ClassId) (mo : Nat) (ad : Nat → Nat) (S : mSt) : Array Value → State → Outcome → State → Prop := fun _ st o t => o = .returned o' ∧ mW cM iS cI cZ mo ad S t.heap ∧ t.heap.size = st.heap.size ∧ ∀ q : Nat, ¬ mA mo ad q → t.heap[q]? = st.heap[q]?
def mNo : Addr → Prop := fun _ => False
/-- a start: the arguments alone (a static method), or with the picture -/
def mPs (As : List Value) : Array Value → State → Prop := fun v _ => v = As.toArray
def mPi (As : List Value) (cM : ClassId) (iS : Nat → Nat) (cI cZ : ClassId) (mo : Nat) (ad : Nat → Nat) (S : mSt) : Array Value → State → Prop := fun v U => v = (Value.ref mo :: As).toArray ∧ mW cM iS cI cZ mo ad S U.heap ∧ mX U cM iS cI cZ mo ad
theorem mX.moved {U : State} (hvm : s.vm.Alike U.vm) (h : mX s cM iS cI cZ mo ad) : mX U cM iS cI cZ mo ad := ⟨h.1.moved hvm, h.2⟩
theorem mPi.blind {As : List Value} : FrameBlind (mPi As cM iS cI cZ mo ad S) := fun a U g mk q => ⟨q.1, q.2.1, q.2.2.moved (Vm.Alike.refl U.vm)⟩
theorem mPs.blind {As : List Value} : FrameBlind (mPs As) := fun _ _ _ _ q => q
theorem mW.recv (X : mX s cM iS cI cZ mo ad) (h : mW cM iS cI cZ mo ad S H) : ∃ cell : Cell, H[mo]? = some cell ∧ cell.vm.isStatics = false ∧ s.vm.findClass RX12 = some cell.cls := by
  obtain ⟨cell, h1, h2, h3, -⟩ := h.1
  exact ⟨cell, h1, by rw [h3]; rfl, by rw [h2]; exact X.1.1.2.1⟩
variable {y : MethodName} {bytes : ByteArray} {maxL index n : Nat} {rt : Option FieldType} {As st0 : List Value} {fr lo : Nat} {r : Int32} {ov : Option Value} {S1 : mSt}
/-- the words of a call, out of the tables -/
def mCw (idx : Nat) (y : MethodName) (bytes : ByteArray) (maxL : Nat) (rt : Option FieldType) (n : Nat) : Prop :=
  Cond.code y bytes maxL rt ∈ lw_g ∧ Cond.methodLink RX12 idx y ∈ lw_g ∧ Cond.initialized RX12 ∈ lw_g ∧ (y.cls = RX12 ∧ y.cls ≠ "java/lang/invoke/MethodHandle" ∧ y.cls ≠ "java/lang/invoke/VarHandle" ∧ (parseMethodDescriptor y.desc).map (fun d => d.parameters.length) = some n)
theorem mt_cons (h : Cond.code y bytes maxL rt ∈ lw_g) : ∀ w ∈ (Cond.code y bytes maxL rt :: lw_g), w ∈ lw_g := fun w hw => (List.mem_cons.mp hw).elim (fun e => e ▸ h) id
theorem mt_cwS (C : mY p R s m args meth c cc nL nF nR ret) (hw : mCw index y bytes maxL rt n) (hs : Cond.static y ∈ lw_g) (hR : fr + 1 ≤ nF ∧ 8 + (maxL + 11) + lo ≤ nR) :
    CallB R s args RX12 index y bytes maxL rt (Cond.code y bytes maxL rt :: lw_g) { frames := fr, cells := 0, slots := 0, locals := lo } 0 0 n ∧ (Cond.static y).before args s = true := by
  obtain ⟨h1, h2, h3, h4⟩ := hw
  refine cwS n C.2.2.2.2.1 (mt_in ?_) rfl rfl rfl h4 ⟨Nat.le_trans hR.1 C.2.2.2.2.2.1.1, Nat.le_trans hR.2 C.2.2.2.2.2.1.2⟩
  intro w hw
  rcases List.mem_append.mp hw with h | h
  · simp only [List.mem_cons, List.not_mem_nil, or_false] at h
    rcases h with rfl | rfl | rfl
    · exact h2
    · exact hs
    · exact h3
  · exact mt_cons h1 w h
theorem mt_cwV (C : mY p R s m args meth c cc nL nF nR ret) (hw : mCw index y bytes maxL rt n) (hi : Cond.instanceMethod y ∈ lw_g) (hs : Cond.selects RX12 y y ∈ lw_g) (hR : fr + 1 ≤ nF ∧ 8 + (maxL + 11) + lo ≤ nR) :
    CallW R s args RX12 RX12 index y bytes maxL rt (Cond.code y bytes maxL rt :: lw_g) { frames := fr, cells := 0, slots := 0, locals := lo } 0 0 n := by
  obtain ⟨h1, h2, h3, h4⟩ := hw
  refine cwV n C.2.2.2.2.1 (mt_in ?_) rfl rfl rfl h4 ⟨Nat.le_trans hR.1 C.2.2.2.2.2.1.1, Nat.le_trans hR.2 C.2.2.2.2.2.1.2⟩
  intro w hw
  rcases List.mem_append.mp hw with h | h
  · simp only [List.mem_cons, List.not_mem_nil, or_false] at h
    rcases h with rfl | rfl | rfl | rfl
    · exact h2
    · exact hi
    · exact hs
    · exact h3
  · exact mt_cons h1 w h
theorem m_same {g : JFrame} {a : Array Value} (hr : va_Run p l e R s m args below meth c H locs 0 0 0 0 (F0 m pc ls st0) rest (mQi r a) mNo)
    (kk : W p l e R s m args below meth c H locs 0 0 Q (F0 m (pc + 3) ls (.int r :: rest))) : W p l e R s m args below meth c H locs 0 0 Q (F0 m pc ls st0) := by
  intro T hT X
  obtain ⟨v, st₀, t, T', L, h0, X', hL, e1, e2, ⟨hv, hh⟩, st⟩ := hr T hT X
  cases hv
  have hLn : L = [] := List.eq_nil_iff_forall_not_mem.mpr fun q hq => hL q hq
  subst hLn
  rw [List.append_nil] at X'
  obtain ⟨t2, a1, b1⟩ := kk T' (by rw [e1, hh, h0]) X'
  exact ⟨t2, st t2 a1, b1⟩
theorem m_moved {a : Array Value} (hr : va_Run p l e R s m args below meth c H locs 0 0 0 0 (F0 m pc ls st0) rest (mQw ov cM iS cI cZ mo ad S1 a) (mA mo ad)) (hS : mS (mA mo ad) H0 H locs)
    (kk : ∀ (H1 : Heap) (locs1 : List Loc), mW cM iS cI cZ mo ad S1 H1 → mS (mA mo ad) H0 H1 locs1 → W p l e R s m args below meth c H1 locs1 0 0 Q (F0 m (pc + 3) ls (ov.toList ++ rest))) : W p l e R s m args below meth c H locs 0 0 Q (F0 m pc ls st0) := by
  intro T hT X
  obtain ⟨v, st₀, t, T', L, h0, X', hL, e1, e2, ⟨hv, hw, hz, hk⟩, st⟩ := hr T hT X
  cases hv
  rw [h0] at hz hk
  obtain ⟨t2, a1, b1⟩ := kk T'.heap (locs ++ L) (by rw [e1]; exact hw) ⟨by rw [e1, hz]; exact hS.1, fun q hq => by rw [e1, hk q hq]; exact hS.2.1 q hq, fun q hq => by
    rcases List.mem_append.mp hq with h | h
    · exact hS.2.2 q h
    · exact hL q h⟩ T' rfl X'
  exact ⟨t2, st t2 a1, b1⟩
/-- a static call that reads nothing; a call that reads; a call that writes -/
theorem m_callS (C : mY p R s m args meth c cc nL nF nR ret) (hls : ls.size = nL) (As : List Value) (hM : Met l y (Cond.code y bytes maxL rt :: lw_g) { frames := fr, cells := 0, slots := 0, locals := lo } (mPs As) (mQi r) 0 0 mNo) (hw : mCw index y bytes maxL rt n) (hs : Cond.static y ∈ lw_g) (hn : As.length = n)
    (hR : fr + 1 ≤ nF ∧ 8 + (maxL + 11) + lo ≤ nR) (hst : st0 = As.reverse ++ rest) (hro : (rest.map fun v => v.category).sum ≤ 8) (hdg : decode cc pc = .ok (.invokestatic index, 3))
    (kk : W p l e R s m args below meth c H locs 0 0 Q (F0 m (pc + 3) ls (.int r :: rest))) : W p l e R s m args below meth c H locs 0 0 Q (F0 m pc ls st0) :=
  m_same (g := F0 m pc ls st0) (va_runS (As := As) (rest := rest) (Ts := lw_g) ⟨C.1, C.2.1, C.2.2.1, C.2.2.2.1, C.2.2.2.2.1⟩ hM (mt_cwS C hw hs hR) ⟨mPs.blind, fun _ _ _ => rfl⟩ rfl hn hls hst (lv_room hro) hdg ⟨Nat.zero_le _, Nat.zero_le _⟩) kk
theorem m_callR (C : mY p R s m args meth c cc nL nF nR ret) (X : mX s cM iS cI cZ mo ad) (hW : mW cM iS cI cZ mo ad S H) (hls : ls.size = nL) (As : List Value) (hM : Met l y (Cond.code y bytes maxL rt :: lw_g) { frames := fr, cells := 0, slots := 0, locals := lo } (mPi As cM iS cI cZ mo ad S) (mQi r) 0 0 mNo) (hw : mCw index y bytes maxL rt n) (hi : Cond.instanceMethod y ∈ lw_g) (hs : Cond.selects RX12 y y ∈ lw_g) (hn : As.length = n)
    (hR : fr + 1 ≤ nF ∧ 8 + (maxL + 11) + lo ≤ nR) (hst : st0 = As.reverse ++ .ref mo :: rest) (hro : (rest.map fun v => v.category).sum ≤ 8) (hdg : decode cc pc = .ok (.invokevirtual index, 3))
    (kk : W p l e R s m args below meth c H locs 0 0 Q (F0 m (pc + 3) ls (.int r :: rest))) : W p l e R s m args below meth c H locs 0 0 Q (F0 m pc ls st0) :=
  m_same (g := F0 m pc ls st0) (va_runV (As := As) (rest := rest) (Ts := lw_g) ⟨C.1, C.2.1, C.2.2.1, C.2.2.2.1, C.2.2.2.2.1⟩ hM (mt_cwV C hw hi hs hR) ⟨mPi.blind, hW.recv X, fun U hU hWm => ⟨rfl, by rw [hU]; exact hW, X.moved hWm.alike⟩⟩ rfl hn hls hst (lv_room hro) hdg ⟨Nat.zero_le _, Nat.zero_le _⟩) kk
theorem m_callW (C : mY p R s m args meth c cc nL nF nR ret) (X : mX s cM iS cI cZ mo ad) (hW : mW cM iS cI cZ mo ad S H) (hS : mS (mA mo ad) H0 H locs) (hls : ls.size = nL) (As : List Value) (hM : Met l y (Cond.code y bytes maxL rt :: lw_g) { frames := fr, cells := 0, slots := 0, locals := lo } (mPi As cM iS cI cZ mo ad S) (mQw ov cM iS cI cZ mo ad S1) 0 0 (mA mo ad)) (hw : mCw index y bytes maxL rt n) (hi : Cond.instanceMethod y ∈ lw_g) (hs : Cond.selects RX12 y y ∈ lw_g) (hn : As.length = n)
    (hR : fr + 1 ≤ nF ∧ 8 + (maxL + 11) + lo ≤ nR) (hst : st0 = As.reverse ++ .ref mo :: rest) (hro : (rest.map fun v => v.category).sum ≤ 8) (hdg : decode cc pc = .ok (.invokevirtual index, 3))
    (kk : ∀ (H1 : Heap) (locs1 : List Loc), mW cM iS cI cZ mo ad S1 H1 → mS (mA mo ad) H0 H1 locs1 → W p l e R s m args below meth c H1 locs1 0 0 Q (F0 m (pc + 3) ls (ov.toList ++ rest))) : W p l e R s m args below meth c H locs 0 0 Q (F0 m pc ls st0) :=
  m_moved (va_runV (As := As) (rest := rest) (Ts := lw_g) ⟨C.1, C.2.1, C.2.2.1, C.2.2.2.1, C.2.2.2.2.1⟩ hM (mt_cwV C hw hi hs hR) ⟨mPi.blind, hW.recv X, fun U hU hWm => ⟨rfl, by rw [hU]; exact hW, X.moved hWm.alike⟩⟩ rfl hn hls hst (lv_room hro) hdg ⟨Nat.zero_le _, Nat.zero_le _⟩) hS kk
/-! ends of methods: Q is MQ below Qc args s 0 0 free -/
theorem m_reti (C : mY p R s m args meth c cc nL nF nR (some .int)) {v : Int32} (hl0 : locs = []) (hH : H = s.heap) (hdg : decode cc pc = .ok (.ireturn, 1)) : W p l e R s m args below meth c H locs 0 0 (MQ below (mQi v) args s 0 0 mNo) (F0 m pc ls [.int v]) := by
  have hlocks := C.2.2.2.2.2.2.2
  exact W.iret C.1 C.2.1 C.2.2.2.2.2.2.1 (fun t ht _ => ⟨rfl, ht.trans hH⟩) (by rw [hl0]; exact fun q h => by cases h) hdg
theorem m_retz (C : mY p R s m args meth c cc nL nF nR (some .boolean)) {v : Int32} (hz : v = 0 ∨ v = 1) (hl0 : locs = []) (hH : H = s.heap) (hdg : decode cc pc = .ok (.ireturn, 1)) : W p l e R s m args below meth c H locs 0 0 (MQ below (mQi v) args s 0 0 mNo) (F0 m pc ls [.int v]) := by
  have hlocks := C.2.2.2.2.2.2.2
  exact W.zret C.1 C.2.1 C.2.2.2.2.2.2.1 (by rcases hz with h | h <;> (rw [h]; rfl)) (fun t ht _ => ⟨rfl, ht.trans hH⟩) (by rw [hl0]; exact fun q h => by cases h) hdg
theorem m_retiW (C : mY p R s m args meth c cc nL nF nR (some .int)) {v : Int32} (hW : mW cM iS cI cZ mo ad S H) (hS : mS (mA mo ad) s.heap H locs) (hdg : decode cc pc = .ok (.ireturn, 1)) : W p l e R s m args below meth c H locs 0 0 (MQ below (mQw (some (.int v)) cM iS cI cZ mo ad S) args s 0 0 (mA mo ad)) (F0 m pc ls [.int v]) := by
  have hlocks := C.2.2.2.2.2.2.2
  exact W.iret C.1 C.2.1 C.2.2.2.2.2.2.1 (fun t ht _ => ⟨rfl, by rw [ht]; exact hW, by rw [ht]; exact hS.1, fun q hq => by rw [ht]; exact hS.2.1 q hq⟩) hS.2.2 hdg
theorem m_retzW (C : mY p R s m args meth c cc nL nF nR (some .boolean)) {v : Int32} (hz : v = 0 ∨ v = 1) (hW : mW cM iS cI cZ mo ad S H) (hS : mS (mA mo ad) s.heap H locs) (hdg : decode cc pc = .ok (.ireturn, 1)) : W p l e R s m args below meth c H locs 0 0 (MQ below (mQw (some (.int v)) cM iS cI cZ mo ad S) args s 0 0 (mA mo ad)) (F0 m pc ls [.int v]) := by
  have hlocks := C.2.2.2.2.2.2.2
  exact W.zret C.1 C.2.1 C.2.2.2.2.2.2.1 (by rcases hz with h | h <;> (rw [h]; rfl)) (fun t ht _ => ⟨rfl, by rw [ht]; exact hW, by rw [ht]; exact hS.1, fun q hq => by rw [ht]; exact hS.2.1 q hq⟩) hS.2.2 hdg
theorem m_retvW (C : mY p R s m args meth c cc nL nF nR none) (hW : mW cM iS cI cZ mo ad S H) (hS : mS (mA mo ad) s.heap H locs) (hdg : decode cc pc = .ok (.return_, 1)) : W p l e R s m args below meth c H locs 0 0 (MQ below (mQw none cM iS cI cZ mo ad S) args s 0 0 (mA mo ad)) (F0 m pc ls []) := by
  have hlocks := C.2.2.2.2.2.2.2
  exact W.vret C.1 C.2.1 C.2.2.2.2.2.2.1 (fun t ht _ => ⟨rfl, by rw [ht]; exact hW, by rw [ht]; exact hS.1, fun q hq => by rw [ht]; exact hS.2.1 q hq⟩) hS.2.2 hdg
end MK
