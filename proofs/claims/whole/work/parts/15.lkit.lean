-- part 15: the law's own picture (lkit.lean, by gen15.py)
theorem cW.keep {D : cG} {S : cSt} {H H1 : Heap} (h : cW D S H) (hz : H1.size = H.size) (h2 : ∀ q : Nat, kK S q ≠ 0 ∨ D.2.2.2.1 q ≠ none → H1[q]? = H[q]?) : cW D S H1 := by
  have h9 := h.zn (Nat.le_of_eq hz.symm) (fun q _ hq => h2 q hq)
  rw [hz, h.1] at h9
  exact h9
/-- the out array; the law's world: the class at S, the reference at M, the out array at oa with o in it -/
def lO (cL : ClassId) (oa : Nat) (o : Int64) (H : Heap) : Prop := ∃ f : Nat → Value, H[oa]? = some (arrV cL 1 f) ∧ f 0 = .long o
def lJ (D : cG) (S0 : cSt) (cM : ClassId) (iS : Nat → Nat) (cI cZ : ClassId) (mo : Nat) (ad : Nat → Nat) (oa : Nat) (cL : ClassId) (s : State) (S : cSt) (M : mSt) (o : Int64) (H : Heap) (locs : List Loc) : Prop :=
  cJ D S0 s.heap S H locs ∧ mW cM iS cI cZ mo ad M H ∧ lO cL oa o H ∧ (∀ q, mA mo ad q → kK S q = 0 ∧ kZ S0 ≤ q ∧ q < kZ S) ∧ (kK S oa = 0 ∧ kZ S0 ≤ oa ∧ oa < kZ S ∧ ¬ mA mo ad oa)
/-- what holds all through -/
def lX (l : Launch) (D : cG) (S0 : cSt) (cM : ClassId) (iS : Nat → Nat) (cI cZ : ClassId) (mo : Nat) (ad : Nat → Nat) (cL : ClassId) (b L : Nat) (xs : Nat → Int32) (s : State) : Prop :=
  l.stackTraces = false ∧ cX D s ∧ mX s cM iS cI cZ mo ad ∧ cW D S0 s.heap ∧ (∀ q, ¬ kWr (kK S0 q)) ∧ (kUz (fun q => kZ S0 ≤ q) s s.heap ∧ va_Nc (kEx 2) (kEx 1) s) ∧ (va_X b L xs s s.heap ∧ b < kZ S0) ∧ ArrOfT s cL .long
section LK
variable {p : Program} {l : Launch} {e : Env} {R : Room} {s : State} {m : MethodId} {args : Array Value} {below : List Frame} {meth : Method} {c : Code} {H : Heap} {locs : List Loc} {cells slots : Nat} {Q : State → Prop}
variable {D : cG} {S S0 S1 S9 : cSt} {own : String} {cc bytes : ByteArray} {nL maxL n fr lo mc ms index : Nat} {pc : Nat} {ls : Array Slot} {rest st0 : List Value} {nF nR nC nS : Nat} {ret rt : Option FieldType} {y : MethodName} {ov : Option Value}
variable {cM : ClassId} {iS : Nat → Nat} {cI cZ : ClassId} {mo : Nat} {ad : Nat → Nat} {oa : Nat} {cL : ClassId} {M M1 : mSt} {o : Int64} {b L : Nat} {xs : Nat → Int32} {H1 : Heap} {Ls : List Loc}
theorem k0 : ¬ kWr 0 := fun h => h.1 rfl
theorem lJ.cls (hJ : lJ D S0 cM iS cI cZ mo ad oa cL s S M o H locs) (hw : cW D S1 H1) (hk : ∀ q : Nat, q < kZ S → ¬ kWr (kK S q) → H1[q]? = H[q]?) (hg : cGr S S1) (hL : ∀ q ∈ Ls, cA S q.base) : lJ D S0 cM iS cI cZ mo ad oa cL s S1 M o H1 (locs ++ Ls) := by
  obtain ⟨hJ, hm, ho, hA, hO⟩ := hJ
  refine ⟨⟨hw, fun q q1 q2 => ?_, fun q hq => ?_, hJ.2.2.2.tr hg⟩, hm.kept fun q hq => hk q (hA q hq).2.2 (by rw [(hA q hq).1]; exact k0), ?_, fun q hq => ⟨(hg.2 q (hA q hq).2.2).trans (hA q hq).1, (hA q hq).2.1, Nat.lt_of_lt_of_le (hA q hq).2.2 hg.1⟩, ⟨(hg.2 oa hO.2.2.1).trans hO.1, hO.2.1, Nat.lt_of_lt_of_le hO.2.2.1 hg.1, hO.2.2.2⟩⟩
  · rw [hk q (Nat.lt_of_lt_of_le q1 hJ.2.2.2.1) (by rw [hJ.2.2.2.2 q q1]; exact q2)]; exact hJ.2.1 q q1 q2
  · rcases List.mem_append.mp hq with h | h
    · exact hJ.2.2.1 q h
    · rcases hL q h with h | h
      · exact hJ.in h
      · exact Or.inr (Nat.le_trans hJ.2.2.2.1 h)
  · obtain ⟨f, q1, q2⟩ := ho
    exact ⟨f, by rw [hk oa hO.2.2.1 (by rw [hO.1]; exact k0)]; exact q1, q2⟩
theorem lJ.ref (h0 : cW D S0 s.heap) (hJ : lJ D S0 cM iS cI cZ mo ad oa cL s S M o H locs) (hw : mW cM iS cI cZ mo ad M1 H1) (hz : H1.size = H.size) (hk : ∀ q : Nat, ¬ mA mo ad q → H1[q]? = H[q]?) (hL : ∀ q ∈ Ls, mA mo ad q.base) : lJ D S0 cM iS cI cZ mo ad oa cL s S M1 o H1 (locs ++ Ls) := by
  obtain ⟨hJ, hm, ho, hA, hO⟩ := hJ
  refine ⟨⟨hJ.1.keep hz fun q hq => hk q fun hq2 => ?_, fun q q1 q2 => ?_, fun q hq => ?_, hJ.2.2.2⟩, hw, ?_, hA, hO⟩
  · rcases hq with h | h
    · exact h (hA q hq2).1
    · cases hd : D.2.2.2.1 q with
      | none => exact h hd
      | some cell =>
        have h1 := (Array.getElem?_eq_some_iff.mp (h0.2.2.2.1 q cell hd).1).1
        rw [h0.1] at h1
        exact Nat.not_lt.mpr (hA q hq2).2.1 h1
  · rw [hk q (fun z => Nat.not_lt.mpr (hA q z).2.1 q1)]; exact hJ.2.1 q q1 q2
  · rcases List.mem_append.mp hq with h | h
    · exact hJ.2.2.1 q h
    · exact Or.inr (hA _ (hL q h)).2.1
  · obtain ⟨f, q1, q2⟩ := ho
    exact ⟨f, by rw [hk oa hO.2.2.2]; exact q1, q2⟩
/-- a helper's doing: it writes the out array beside the class's cells -/
theorem lJ.both (h0 : cW D S0 s.heap) {o1 : Int64} (hJ : lJ D S0 cM iS cI cZ mo ad oa cL s S M o H locs) (hw : cW D S1 H1) (ho1 : lO cL oa o1 H1) (hk : ∀ q : Nat, q < kZ S → q ≠ oa → ¬ kWr (kK S q) → H1[q]? = H[q]?) (hg : cGr S S1) (hL : ∀ q ∈ Ls, cA S q.base ∨ q.base = oa) : lJ D S0 cM iS cI cZ mo ad oa cL s S1 M o1 H1 (locs ++ Ls) := by
  obtain ⟨hJ, hm, ho, hA, hO⟩ := hJ
  refine ⟨⟨hw, fun q q1 q2 => ?_, fun q hq => ?_, hJ.2.2.2.tr hg⟩, hm.kept fun q hq => hk q (hA q hq).2.2 (fun z => hO.2.2.2 (z ▸ hq)) (by rw [(hA q hq).1]; exact k0), ho1, fun q hq => ⟨(hg.2 q (hA q hq).2.2).trans (hA q hq).1, (hA q hq).2.1, Nat.lt_of_lt_of_le (hA q hq).2.2 hg.1⟩, ⟨(hg.2 oa hO.2.2.1).trans hO.1, hO.2.1, Nat.lt_of_lt_of_le hO.2.2.1 hg.1, hO.2.2.2⟩⟩
  · rw [hk q (Nat.lt_of_lt_of_le q1 hJ.2.2.2.1) (fun z => Nat.not_lt.mpr hO.2.1 (z ▸ q1)) (by rw [hJ.2.2.2.2 q q1]; exact q2)]; exact hJ.2.1 q q1 q2
  · rcases List.mem_append.mp hq with h | h
    · exact hJ.2.2.1 q h
    · rcases hL q h with (h | h) | h
      · exact hJ.in h
      · exact Or.inr (Nat.le_trans hJ.2.2.2.1 h)
      · exact Or.inr (by rw [h]; exact hO.2.1)
/-- calls of the law's body: of the class, reading or writing; of the reference -/
theorem l_cR (C : cY p R s m args meth c own cc nL nF nC nS nR ret) (X : lX l D S0 cM iS cI cZ mo ad cL b L xs s) (hJ : lJ D S0 cM iS cI cZ mo ad oa cL s S M o H locs) (hls : ls.size = nL) {x0 : Nat} (hk : kK S x0 = 12) (As : List Value) (hM : Met l y (Cond.code y bytes maxL rt :: lw_g) { frames := fr, cells := 0, slots := 0, locals := lo } (kPi (.ref x0 :: As) D S) (kQ ov) 0 0 mNo) (hw : cCw own index y bytes maxL rt n) (hi : Cond.instanceMethod y ∈ lw_g) (hs : Cond.selects (kRn 11) y y ∈ lw_g) (hn : As.length = n)
    (hR : fr + 1 ≤ nF ∧ 8 + (maxL + 11) + lo ≤ nR) (hce : cells ≤ nC ∧ slots ≤ nS) (hst : st0 = As.reverse ++ .ref x0 :: rest) (hro : (rest.map fun v => v.category).sum ≤ 8) (hdg : decode cc pc = .ok (.invokevirtual index, 3))
    (kk : W p l e R s m args below meth c H locs cells slots Q (F0 m (pc + 3) ls (ov.toList ++ rest))) : W p l e R s m args below meth c H locs cells slots Q (F0 m pc ls st0) :=
  c_callR C X.2.1 hJ.1.1 hls 11 (by decide) hk As hM hw hi hs hn hR hce hst hro hdg kk
theorem l_cW (C : cY p R s m args meth c own cc nL nF nC nS nR ret) (X : lX l D S0 cM iS cI cZ mo ad cL b L xs s) (hJ : lJ D S0 cM iS cI cZ mo ad oa cL s S M o H locs) (hls : ls.size = nL) {x0 : Nat} (hk : kK S x0 = 12) (As : List Value) (hM : Met l y (Cond.code y bytes maxL rt :: lw_g) { frames := fr, cells := mc, slots := ms, locals := lo } (kPi (.ref x0 :: As) D S) (kW ov D S S1) mc ms (cA S)) (hw : cCw own index y bytes maxL rt n) (hi : Cond.instanceMethod y ∈ lw_g) (hs : Cond.selects (kRn 11) y y ∈ lw_g) (hn : As.length = n)
    (hR : fr + 1 ≤ nF ∧ 8 + (maxL + 11) + lo ≤ nR) (hce : cells + mc ≤ nC ∧ slots + ms ≤ nS) (hst : st0 = As.reverse ++ .ref x0 :: rest) (hro : (rest.map fun v => v.category).sum ≤ 8) (hdg : decode cc pc = .ok (.invokevirtual index, 3))
    (kk : ∀ (H1 : Heap) (locs1 : List Loc), lJ D S0 cM iS cI cZ mo ad oa cL s S1 M o H1 locs1 → W p l e R s m args below meth c H1 locs1 (cells + mc) (slots + ms) Q (F0 m (pc + 3) ls (ov.toList ++ rest))) : W p l e R s m args below meth c H locs cells slots Q (F0 m pc ls st0) := by
  intro T hT Z
  obtain ⟨v, st₀, t, T', Lx, h0, Z', hL, e1, e2, ⟨hv, hw1, hk1, hg⟩, st⟩ := va_runV (As := As) (rest := rest) (Ts := lw_g) ⟨C.1, C.2.1, C.2.2.1, C.2.2.2.1, C.2.2.2.2.1⟩ hM ⟨c_cb C hw hR, C.2.2.2.2.1 _ hi, C.2.2.2.2.1 _ hs⟩ ⟨kPi.blind, hJ.1.1.recv X.2.1 11 (by decide) hk, fun U hU hWm => ⟨rfl, by rw [hU]; exact hJ.1.1, X.2.1.warm hWm⟩⟩ rfl hn hls hst (lv_room hro) hdg ⟨Nat.le_trans hce.1 C.2.2.2.2.2.1.2.1, Nat.le_trans hce.2 C.2.2.2.2.2.1.2.2.1⟩ T hT Z
  cases hv
  rw [h0] at hk1
  obtain ⟨t2, a1, b1⟩ := kk T'.heap (locs ++ Lx) (hJ.cls (by rw [e1]; exact hw1) (fun q q1 q2 => by rw [e1]; exact hk1 q q1 q2) hg hL) T' rfl Z'
  exact ⟨t2, st t2 a1, b1⟩
theorem l_mW (C : cY p R s m args meth c own cc nL nF nC nS nR ret) (X : lX l D S0 cM iS cI cZ mo ad cL b L xs s) (hJ : lJ D S0 cM iS cI cZ mo ad oa cL s S M o H locs) (hls : ls.size = nL) (As : List Value) (hM : Met l y (Cond.code y bytes maxL rt :: lw_g) { frames := fr, cells := 0, slots := 0, locals := lo } (mPi As cM iS cI cZ mo ad M) (mQw ov cM iS cI cZ mo ad M1) 0 0 (mA mo ad)) (hw : cCw own index y bytes maxL rt n) (hi : Cond.instanceMethod y ∈ lw_g) (hs : Cond.selects RX12 y y ∈ lw_g) (hn : As.length = n)
    (hR : fr + 1 ≤ nF ∧ 8 + (maxL + 11) + lo ≤ nR) (hce : cells ≤ nC ∧ slots ≤ nS) (hst : st0 = As.reverse ++ .ref mo :: rest) (hro : (rest.map fun v => v.category).sum ≤ 8) (hdg : decode cc pc = .ok (.invokevirtual index, 3))
    (kk : ∀ (H1 : Heap) (locs1 : List Loc), lJ D S0 cM iS cI cZ mo ad oa cL s S M1 o H1 locs1 → W p l e R s m args below meth c H1 locs1 cells slots Q (F0 m (pc + 3) ls (ov.toList ++ rest))) : W p l e R s m args below meth c H locs cells slots Q (F0 m pc ls st0) := by
  intro T hT Z
  obtain ⟨v, st₀, t, T', Lx, h0, Z', hL, e1, e2, ⟨hv, hw1, hz1, hk1⟩, st⟩ := va_runV (As := As) (rest := rest) (Ts := lw_g) ⟨C.1, C.2.1, C.2.2.1, C.2.2.2.1, C.2.2.2.2.1⟩ hM ⟨c_cb C hw hR, C.2.2.2.2.1 _ hi, C.2.2.2.2.1 _ hs⟩ ⟨mPi.blind, hJ.2.1.recv X.2.2.1, fun U hU hWm => ⟨rfl, by rw [hU]; exact hJ.2.1, X.2.2.1.moved hWm.alike⟩⟩ rfl hn hls hst (lv_room hro) hdg ⟨Nat.le_trans hce.1 C.2.2.2.2.2.1.2.1, Nat.le_trans hce.2 C.2.2.2.2.2.1.2.2.1⟩ T hT Z
  cases hv
  rw [h0] at hk1 hz1
  obtain ⟨t2, a1, b1⟩ := kk T'.heap (locs ++ Lx) (hJ.ref X.2.2.2.1 (by rw [e1]; exact hw1) (by rw [e1]; exact hz1) (fun q q1 => by rw [e1]; exact hk1 q q1) hL) T' rfl Z'
  exact ⟨t2, st t2 a1, b1⟩
theorem l_mR {r : Int32} (C : cY p R s m args meth c own cc nL nF nC nS nR ret) (X : lX l D S0 cM iS cI cZ mo ad cL b L xs s) (hJ : lJ D S0 cM iS cI cZ mo ad oa cL s S M o H locs) (hls : ls.size = nL) (As : List Value) (hM : Met l y (Cond.code y bytes maxL rt :: lw_g) { frames := fr, cells := 0, slots := 0, locals := lo } (mPi As cM iS cI cZ mo ad M) (mQi r) 0 0 mNo) (hw : cCw own index y bytes maxL rt n) (hi : Cond.instanceMethod y ∈ lw_g) (hs : Cond.selects RX12 y y ∈ lw_g) (hn : As.length = n)
    (hR : fr + 1 ≤ nF ∧ 8 + (maxL + 11) + lo ≤ nR) (hce : cells ≤ nC ∧ slots ≤ nS) (hst : st0 = As.reverse ++ .ref mo :: rest) (hro : (rest.map fun v => v.category).sum ≤ 8) (hdg : decode cc pc = .ok (.invokevirtual index, 3))
    (kk : W p l e R s m args below meth c H locs cells slots Q (F0 m (pc + 3) ls (.int r :: rest))) : W p l e R s m args below meth c H locs cells slots Q (F0 m pc ls st0) :=
  c_same (ov := some (.int r)) (va_runV (As := As) (rest := rest) (Ts := lw_g) ⟨C.1, C.2.1, C.2.2.1, C.2.2.2.1, C.2.2.2.2.1⟩ hM ⟨c_cb C hw hR, C.2.2.2.2.1 _ hi, C.2.2.2.2.1 _ hs⟩ ⟨mPi.blind, hJ.2.1.recv X.2.2.1, fun U hU hWm => ⟨rfl, by rw [hU]; exact hJ.2.1, X.2.2.1.moved hWm.alike⟩⟩ rfl hn hls hst (lv_room hro) hdg ⟨Nat.le_trans hce.1 C.2.2.2.2.2.1.2.1, Nat.le_trans hce.2 C.2.2.2.2.2.1.2.2.1⟩) kk
/-- the script -/
theorem l_sld (C : cY p R s m args meth c own cc nL nF nC nS nR ret) (X : lX l D S0 cM iS cI cZ mo ad cL b L xs s) (hJ : lJ D S0 cM iS cI cZ mo ad oa cL s S M o H locs) {i : Int32} (hin : vp_in i L) (hdg : decode cc pc = .ok (.iaload, 1))
    (kk : W p l e R s m args below meth c H locs cells slots Q (F0 m (pc + 1) ls (.int (xs i.toNatClampNeg) :: rest))) : W p l e R s m args below meth c H locs cells slots Q (F0 m pc ls (.int i :: .ref b :: rest)) :=
  va_sld (A := cA S0) C.1 C.2.1 X.2.2.2.2.2.2.1.1 (by rw [X.2.2.2.1.1]; exact X.2.2.2.2.2.2.1.2) (fun z => z.elim (X.2.2.2.2.1 b) (fun z => Nat.not_le.mpr X.2.2.2.2.2.2.1.2 z)) (hJ.1.vaS X.2.2.2.1) hin hdg kk
theorem l_slen (C : cY p R s m args meth c own cc nL nF nC nS nR ret) (X : lX l D S0 cM iS cI cZ mo ad cL b L xs s) (hJ : lJ D S0 cM iS cI cZ mo ad oa cL s S M o H locs) (hdg : decode cc pc = .ok (.arraylength, 1))
    (kk : W p l e R s m args below meth c H locs cells slots Q (F0 m (pc + 1) ls (.int (Int32.ofNat L) :: rest))) : W p l e R s m args below meth c H locs cells slots Q (F0 m pc ls (.ref b :: rest)) :=
  va_slen (A := cA S0) C.1 C.2.1 X.2.2.2.2.2.2.1.1 (by rw [X.2.2.2.1.1]; exact X.2.2.2.2.2.2.1.2) (fun z => z.elim (X.2.2.2.2.1 b) (fun z => Nat.not_le.mpr X.2.2.2.2.2.2.1.2 z)) (hJ.1.vaS X.2.2.2.1) hdg kk
theorem l_lald (C : cY p R s m args meth c own cc nL nF nC nS nR ret) (hA : ArrOfT s cL .long) (ho : lO cL oa o H) (hdg : decode cc pc = .ok (.laload, 1))
    (kk : W p l e R s m args below meth c H locs cells slots Q (F0 m (pc + 1) ls (.long o :: rest))) : W p l e R s m args below meth c H locs cells slots Q (F0 m pc ls (.int 0 :: .ref oa :: rest)) := by
  obtain ⟨f, q1, q2⟩ := ho
  exact W.lald (v := .long o) C.1 C.2.1 q1 (hA 1 _) (fun q => by cases q) (by show ¬ ((0 : Int32) < 0 ∨ (arrV _ _ _).slots.size ≤ _); rw [arrV_size]; decide) (by show (arrV _ _ _).slots[_]? = _; rw [arrV_read _ _ (by decide)]; exact congrArg some q2) rfl rfl hdg kk
theorem l_last {x : Int64} (C : cY p R s m args meth c own cc nL nF nC nS nR ret) (hA : ArrOfT s cL .long) (ho : lO cL oa o H) (hdg : decode cc pc = .ok (.lastore, 1))
    (kk : ∀ H1 : Heap, lO cL oa x H1 → H1.size = H.size → (∀ q : Nat, q ≠ oa → H1[q]? = H[q]?) → W p l e R s m args below meth c H1 (locs ++ [⟨oa, 0⟩]) cells slots Q (F0 m (pc + 1) ls rest)) : W p l e R s m args below meth c H locs cells slots Q (F0 m pc ls (.long x :: .int 0 :: .ref oa :: rest)) := by
  obtain ⟨f, q1, q2⟩ := ho
  refine W.last C.1 C.2.1 q1 (hA 1 _) (fun q => by cases q) (by show ¬ ((0 : Int32) < 0 ∨ (arrV _ _ _).slots.size ≤ _); rw [arrV_size]; decide) rfl rfl hdg fun H1 e1 z oq => kk H1 ?_ z oq
  exact ⟨updV f 0 (.long x), by rw [e1, arrV_store]; rfl, by simp [updV]⟩
/-- a call that may throw -/
theorem l_thr {tg : Nat} {r : Int32} {a : Array Value} (hr : vx_Run p l e R s m args below meth c H locs cells slots mc ms (F0 m pc ls st0) rest (kWt tg r D S S9 a) (kXt tg D S S9) (cA S)) (hJ : cJ D S0 s.heap S H locs)
    (kr : tg = 0 → ∀ (H1 : Heap) (locs1 : List Loc), cJ D S0 s.heap S9 H1 locs1 → (∀ q : Nat, q < kZ S → ¬ kWr (kK S q) → H1[q]? = H[q]?) → W p l e R s m args below meth c H1 locs1 (cells + mc) (slots + ms) Q (F0 m (pc + 3) ls (.int r :: rest)))
    (kx : tg ≠ 0 → ∀ (H1 : Heap) (locs1 : List Loc) (q : Addr) (ce : Cell), kZ S9 ≤ H1.size → cJ D S0 s.heap (cZn S9 H1.size) H1 locs1 → (∀ q : Nat, q < kZ S → ¬ kWr (kK S q) → H1[q]? = H[q]?) → H1[q]? = some ce → ce.vm = .none → s.vm.findClass (kEx tg) = some ce.cls → vx_W p l e R s m args below meth c H1 locs1 (cells + mc) (slots + ms) Q (F0 m pc ls rest) q) : W p l e R s m args below meth c H locs cells slots Q (F0 m pc ls st0) := by
  intro T hT X
  have hin : ∀ q, cA S q → cA S0 q := fun q hq => by
    rcases hq with h | h
    · exact hJ.in h
    · exact Or.inr (Nat.le_trans hJ.2.2.2.1 h)
  have hLs : ∀ Lx : List Loc, (∀ q ∈ Lx, cA S q.base) → ∀ q ∈ locs ++ Lx, cA S0 q.base := fun Lx hL q hq => by
    rcases List.mem_append.mp hq with h | h
    · exact hJ.2.2.1 q h
    · exact hin _ (hL q h)
  rcases hr T hT X with ⟨v, st₀, t, T', Lx, h0, X', hL, e1, e2, ⟨ht, hv, hw, hk, hg⟩, st⟩ | ⟨q, st₀, t, T', Lx, E, ce, h0, X', hL, e1, e2, ⟨ht, hE, ⟨hn, hw⟩, hk, hg⟩, hce, hcv, hcl, st⟩
  · cases hv
    rw [h0] at hk
    obtain ⟨t2, a1, b1⟩ := kr ht T'.heap (locs ++ Lx) ⟨by rw [e1]; exact hw, fun q q1 q2 => by rw [e1, hk q (Nat.lt_of_lt_of_le q1 hJ.2.2.2.1) (by rw [hJ.2.2.2.2 q q1]; exact q2)]; exact hJ.2.1 q q1 q2, hLs Lx hL, hJ.2.2.2.tr hg⟩ (fun q q1 q2 => by rw [e1]; exact hk q q1 q2) T' rfl X'
    exact ⟨t2, st t2 a1, b1⟩
  · subst hE
    rw [h0] at hk
    have hg' : cGr S (cZn S9 T'.heap.size) := ⟨Nat.le_trans hg.1 (by rw [e1]; exact hn), hg.2⟩
    obtain ⟨t2, a1, b1⟩ := kx ht T'.heap (locs ++ Lx) q ce (by rw [e1]; exact hn) ⟨by rw [e1]; exact hw, fun q q1 q2 => by rw [e1, hk q (Nat.lt_of_lt_of_le q1 hJ.2.2.2.1) (by rw [hJ.2.2.2.2 q q1]; exact q2)]; exact hJ.2.1 q q1 q2, hLs Lx hL, hJ.2.2.2.tr hg'⟩ (fun q q1 q2 => by rw [e1]; exact hk q q1 q2) (by rw [e1]; exact hce) hcv hcl T' rfl X'
    exact ⟨t2, st.trans a1, b1⟩
end LK
