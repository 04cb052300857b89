-- made by wip/whole/gen19.py: the law from its entry to its end
theorem dL_law_0 : decode cL_law 0 = .ok (.new 8, 3) := by decide +kernel
theorem dL_law_3 : decode cL_law 3 = .ok (.dup, 1) := by decide +kernel
theorem dL_law_4 : decode cL_law 4 = .ok (.invokespecial 29, 3) := by decide +kernel
theorem dL_law_7 : decode cL_law 7 = .ok (.astore_n 1, 1) := by decide +kernel
theorem dL_law_8 : decode cL_law 8 = .ok (.new 30, 3) := by decide +kernel
theorem dL_law_11 : decode cL_law 11 = .ok (.dup, 1) := by decide +kernel
theorem dL_law_12 : decode cL_law 12 = .ok (.invokespecial 32, 3) := by decide +kernel
theorem dL_law_15 : decode cL_law 15 = .ok (.astore_n 2, 1) := by decide +kernel
theorem dL_law_16 : decode cL_law 16 = .ok (.iconst 1, 1) := by decide +kernel
theorem dL_law_17 : decode cL_law 17 = .ok (.newarray .long, 2) := by decide +kernel
theorem dL_law_19 : decode cL_law 19 = .ok (.astore_n 3, 1) := by decide +kernel
theorem dL_law_20 : decode cL_law 20 = .ok (.iconst 0, 1) := by decide +kernel
theorem dL_law_21 : decode cL_law 21 = .ok (.istore 4, 2) := by decide +kernel
theorem cwL_29 : cCw RL 29 yX11_init cX11_init 2 none 0 := ⟨kd_11_init, mt_at 34 (by decide +kernel) rfl, mt_at 1 (by decide +kernel) rfl, by decide +kernel⟩
theorem cdL_init : Cond.code yX12_init cX12_init 1 none ∈ lw_g := mt_at 1690 (by decide +kernel) rfl
theorem cwL_32 : cCw RL 32 yX12_init cX12_init 1 none 0 := ⟨cdL_init, mt_at 1688 (by decide +kernel) rfl, mt_at 11 (by decide +kernel) rfl, by decide +kernel⟩
theorem imL_init : Cond.instanceMethod yX12_init ∈ lw_g := mt_at 1689 (by decide +kernel) rfl
/-- what is left: an invariant that the constructors found and that every call keeps, both sides answering alike -/
def pGoal (N : Nat) : Prop := ∀ (S0 : cSt), pS0 S0 → ∃ (Ik : Nat → cSt → mSt → Prop) (S2 : cSt), fk_11_init (cNw S0 12 0) (kZ S0) = some S2 ∧ (∀ n, kZ S2 ≤ n → Ik 0 (cZn S2 n) mS0) ∧ ∀ k, 7 * k + 7 ≤ N → lAll (kZ S0) (Ik k) (Ik (k + 1))
theorem cJ.zn {D : cG} {S0 S : cSt} {H0 H H1 : Heap} {locs Ls : List Loc} (hJ : cJ D S0 H0 S H locs) (h1 : H.size ≤ H1.size) (h2 : ∀ q : Nat, q < H.size → H1[q]? = H[q]?) (hL : ∀ q ∈ Ls, kZ S0 ≤ q.base) : cJ D S0 H0 (cZn S H1.size) H1 (locs ++ Ls) :=
  ⟨hJ.1.zn h1 (fun q hq _ => h2 q hq), fun q q1 q2 => by rw [h2 q (by rw [hJ.1.1]; exact Nat.lt_of_lt_of_le q1 hJ.2.2.2.1)]; exact hJ.2.1 q q1 q2, fun q hq => (List.mem_append.mp hq).elim (hJ.2.2.1 q) (fun h => Or.inr (hL q h)), ⟨Nat.le_trans hJ.2.2.2.1 (by rw [← hJ.1.1]; exact h1), hJ.2.2.2.2⟩⟩
theorem p_def : ∀ k, k < 80 → defaultValue (tyX12 k) = iV 0 (fun _ => 0) 0 k := by decide +kernel
theorem p_iV (z k : Nat) : iV z (fun _ => 0) 0 k = iV 0 (fun _ => 0) 0 k := by unfold iV; simp
def R_law : String := "AccordHouseLaw"
def lw_P (b : Addr) (xs : List Int32) (args : Array Value) (s : State) : Prop := args = #[.ref b] ∧ s.IntsAt b xs ∧ xs.length ≤ 448 ∧ (Jvm.Cond.and given_1 narrow_1).before args s = true
def lw_Q (_ : Array Value) (s : State) (o : Outcome) (t : State) : Prop := o = .returned (some (.int 1)) ∧ Framed s o t [] 600128 7301098
def lw_Z (below : List Frame) (a : Array Value) (s : State) : State → Prop := fun t => ∃ o, t.status = .running ∧ Ended t below o ∧ lw_Q a s o t
/-- the law's own end, with 1 on the stack, nothing written that was there before, its room as the claim has it -/
theorem lw_ret {p : Program} {l : Launch} {e : Env} {s : State} {m : MethodId} {below : List Frame} {meth : Method} {c : Code} {b : Nat} (hx : p.tables.exec = Jvm.exec) (hb : c.code = code) (hr : meth.sig.returnType = ret) (hlocks : meth.locks = false) {pc : Nat} {H : Heap} {ls : Array Slot} (hdg : decode code pc = .ok (.ireturn, 1)) : W p l e room_1 s m #[Value.ref b] below meth c H [] 600128 7301098 (lw_Z below #[Value.ref b] s) (F0 m pc ls [.int 1]) := by
  intro T hT X
  obtain ⟨fs, hret, hrun, hended, hW, hframe⟩ := X.leave (v := some (.int 1)) (hlocks := hlocks) (fun h => by rw [hr] at h; cases h)
  have hmeth' : T.vm.method? m = some meth := X.method'
  refine ⟨T.setFrames fs, ?_, .returned (some (.int 1)), hrun, hended, rfl, ⟨_, rfl⟩, hW, hframe⟩
  jvm_step X.here [X.here.top, hx, hb, hdg, hmeth', hr, ret, narrow_b1]
  (try refine ⟨rfl, ?_⟩); (try refine ⟨rfl, ?_⟩)
  first | (intro acts; rw [hret _ acts rfl rfl rfl]) | rw [hret _ _ rfl rfl rfl]
  exact Steps.refl _
/-- what holds at the law's entry: the machine, the code, the tables' words (any of lw_tbl by 'hts w (by decide +kernel)'), the script of L ints xs at the cell b, what the Statement gives of the start (any of its parts by flat_of_before) -/
def lw_At (p : Program) (s : State) (m : MethodId) (meth : Method) (c : Code) (b L : Nat) (xs : Nat → Int32) : Prop :=
  p.tables.exec = Jvm.exec ∧ c.code = code ∧ meth.sig.returnType = ret ∧ c.maxLocals = 7 ∧ s.vm.findClass R_law = some m.cls ∧ (∀ w ∈ lw_tbl, w.before #[Value.ref b] s = true) ∧ va_X b L xs s s.heap ∧ b < s.heap.size ∧ meth.locks = false ∧ (Jvm.Cond.and given_1 narrow_1).before #[Value.ref b] s = true
set_option maxRecDepth 100000 in
set_option maxHeartbeats 4000000 in
theorem whole_start (hG : pGoal 448) {p : Program} {e : Env} {s : State} {m : MethodId} {below : List Frame} {meth : Method} {c : Code} (l : Launch) (hl0 : l.stackTraces = false) {b L : Nat} {xs : Nat → Int32} (hL : L ≤ 448) (C0 : lw_At p s m meth c b L xs) : W p l e room_1 s m #[Value.ref b] below meth c s.heap [] 0 0 (lw_Z below #[Value.ref b] s) (entryFrame m ([Value.ref b] : List Value).toArray 7) := by
  obtain ⟨hx, hb, hr, hml, hown, hts, hX, hbl, hlocks, hgv⟩ := C0
  have hn := flat_of_before _ hgv
  have hg : ∀ w ∈ lw_g, w.before #[Value.ref b] s = true := fun w hw => hts w (List.mem_filter.mp hw).1
  obtain ⟨D, S0, X1, hW0, hnw, hp0, hz0⟩ := p_start hts hn
  have hU := p_uz hts hn
  have hNc : va_Nc (kEx 2) (kEx 1) s := va_Nc.of (hn _ (p_fl 228 (by decide +kernel)))
  obtain ⟨cM, iS, hKm⟩ := u_known (C := RX12) (T := TX12) (N := 80) (n := 80) hg mt_lays (hg _ (mt_at 1687 (by decide +kernel) rfl))
  obtain ⟨cI, gI, fI⟩ := p_arr (hg _ ia_int)
  obtain ⟨cZ, gZ, fZ⟩ := p_arr (hg _ ia_boolean)
  have ia_long : Cond.arrayClass .long ∈ lw_g := (mt_at 2382 (by decide +kernel) rfl)
  obtain ⟨cL, gL, fL⟩ := p_arr (hg _ ia_long)
  have C : cY p room_1 s m #[Value.ref b] meth c RL cL_law 7 2048 600128 7301098 84000 (some .boolean) := ⟨hx, hb, hml, hown, hg, ⟨by decide, by decide, by decide, by decide⟩, hr, hlocks⟩
  obtain ⟨Ik, S2, hi2, hI0, hA⟩ := hG S0 hp0
  have hl := lv_entry ([Value.ref b]) (n := 7) (Nat.le_of_ble_eq_true rfl)
  rw [lg_entry_eq]
  generalize (lg_sl ([Value.ref b]) ++ List.replicate (7 - (lg_sl ([Value.ref b])).length) Slot.unset).toArray = ls at hl ⊢
  have hl : lv_has ls 7 [(0, .ref b)] := hl
  have hJ : cJ D S0 s.heap S0 s.heap [] := cJ.rf hW0
  refine c_new C X1 hJ 11 (by decide) ly_11 (fun j hj => by match j, hj with | 0, _ => rfl | 1, _ => rfl | 2, _ => rfl | 3, _ => rfl | 4, _ => rfl | 5, _ => rfl | 6, _ => rfl | 7, _ => rfl | 8, _ => rfl | 9, _ => rfl | j + 10, h => exact absurd (show j + 10 < 10 from h) (by omega)) (mt_at 32 (by decide +kernel) rfl) (mt_at 33 (by decide +kernel) rfl) (mt_at 1 (by decide +kernel) rfl) (by decide) (by decide) dL_law_0 (fun H hJ => ?_)
  refine lv_dup C.1 C.2.1 dL_law_3 rfl ?_
  refine c_callI (rest := [.ref (kZ S0)]) C X1 hJ hl.1 [] (tk_11_init l hi2) cwL_29 ki_11_init rfl rfl ⟨by decide, by decide⟩ ⟨by decide, by decide⟩ rfl (Nat.le_of_ble_eq_true rfl) dL_law_4 (fun H locs hJ => ?_)
  refine W.eq (g2 := F0 m 7 ls [.ref (kZ S0)]) rfl ?_
  refine lv_astore_n (lv' := [(1, .ref (kZ S0)), (0, .ref b)]) C.1 C.2.1 dL_law_7 rfl hl (by decide) rfl (fun ls hl => ?_)
  have hKm1 := hKm
  refine W.newcK (n := 80) C.1 C.2.1 C.2.2.2.1 (hg _ (mt_at 1686 (by decide +kernel) rfl)) (hg _ (mt_at 1687 (by decide +kernel) rfl)) (hg _ (mt_at 11 (by decide +kernel) rfl)) rfl dL_law_8 (by decide) (by decide) hKm.2.1 hJ.1.1 fun H1 kC hkC e1 z1 o1 => ?_
  obtain ⟨mo, e_mo⟩ : ∃ q, q = kZ S2 := ⟨_, rfl⟩
  rw [← e_mo] at e1 z1 o1
  have hO : t_OB mo cM 80 iS H1 (iV (mo + 1) (fun _ => 0) 0) := (u_born tyX12 hg mt_lays hKm hkC e1 tyX12_ok).to (fun k hk => by rw [p_iV]; exact p_def k hk)
  have hJ1 := hJ.zn (Ls := []) (H1 := H1) (by rw [z1, hJ.1.1, e_mo]; exact Nat.le_succ _) (fun q hq => o1 q (by rw [e_mo, ← hJ.1.1]; exact hq)) (fun q h => nomatch h)
  rw [List.append_nil] at hJ1
  refine W.eq (g2 := F0 m 11 ls [.ref mo]) (by rw [e_mo]) ?_
  refine lv_dup C.1 C.2.1 dL_law_11 rfl ?_
  have hKs : mK cM iS cI cZ s := ⟨hKm, gI, gZ⟩
  have hK2 : mK2 cI cZ s := ⟨fI, fZ⟩
  intro T hT Z
  obtain ⟨v, st₀, t, T', Lx, h0, Z', hLx, e2, e3, ⟨hv, hm, hzs, hfr⟩, st⟩ := va_runI (As := []) (rest := [.ref mo]) (Ts := lw_g) (g := F0 m 12 ls [.ref mo, .ref mo]) ⟨C.1, C.2.1, C.2.2.1, C.2.2.2.1, C.2.2.2.2.1⟩ (tm_init l (cM := cM) (iS := iS) (cI := cI) (cZ := cZ) (mo := mo) (z0 := mo + 1)) ⟨c_cb C cwL_32 ⟨by decide, by decide⟩, rfl, hg _ imL_init⟩ ⟨fun a U g mk q => ⟨q.1, q.2.1, q.2.2.1, q.2.2.2.1, mK.moved (u := U) (U := U.calling g mk a) (Vm.Alike.refl U.vm) q.2.2.2.2.1, mK2.moved (u := U) (U := U.calling g mk a) (Vm.Alike.refl U.vm) q.2.2.2.2.2⟩, fun U hU hWm => ⟨rfl, by rw [hU]; exact z1, Nat.lt_succ_self _, by rw [hU]; exact hO, mK.moved hWm.alike hKs, mK2.moved hWm.alike hK2⟩⟩ rfl rfl hl.1 rfl (lv_room (Nat.le_of_ble_eq_true rfl)) dL_law_12 ⟨by decide, by decide⟩ T hT Z
  cases hv
  rw [h0] at hfr
  rw [← e2] at hm hzs hfr
  have key : W p l e room_1 s m #[Value.ref b] below meth c T'.heap (locs ++ Lx) (0 + 1 + 158 + 1 + 61) (0 + kN 11 + 47364 + 80 + 113945) (lw_Z below #[Value.ref b] s) (F0 m 15 ls [.ref mo]) := by
    clear st Z' Z
    have hzz : T'.heap.size = mo + 62 := by rw [hzs]
    have hJ2 := hJ.zn (Ls := Lx) (H1 := T'.heap) (by rw [hzz, hJ.1.1, ← e_mo]; omega) (fun q hq => by
      have hq2 : q < mo := by rw [e_mo, ← hJ.1.1]; exact hq
      rw [hfr q (by omega) (by omega)]; exact o1 q hq2) (fun q hq => by
        have h9 : q.base = mo ∨ mo + 1 ≤ q.base := hLx q hq
        have h8 := hJ.2.2.2.1
        rw [← e_mo] at h8
        exact h9.elim (fun h9 => by rw [h9]; exact h8) (fun h9 => Nat.le_trans h8 (Nat.le_trans (Nat.le_succ _) h9)))
    generalize T'.heap = H2 at *
    refine lv_astore_n (lv' := [(2, .ref mo), (1, .ref (kZ S0)), (0, .ref b)]) C.1 C.2.1 dL_law_15 rfl hl (by decide) rfl (fun ls hl => ?_)
    refine lv_iconst (v := 1) C.1 C.2.1 dL_law_16 (by decide) ?_
    refine va_newaK (atype := .long) C.1 C.2.1 (hg _ ia_long) rfl dL_law_17 rfl (by decide) rfl (by decide) (by decide) (by decide) hzz fun H3 cA' e4 z4 o4 ha hf => ?_
    have hcA : cA' = cL := Option.some.inj (hf.symm.trans fL)
    subst hcA
    have hJ3 := hJ2.zn (Ls := []) (H1 := H3) (by rw [z4, hzz]; omega) (fun q hq => o4 q (by rw [← hzz]; exact hq)) (fun q h => nomatch h)
    rw [List.append_nil] at hJ3
    have hS3 : cZn (cZn S2 H2.size) H3.size = cZn S2 H3.size := rfl
    rw [hS3] at hJ3
    refine W.eq (g2 := F0 m 19 ls [.ref (mo + 62)]) rfl ?_
    refine lv_astore_n (lv' := [(3, .ref (mo + 62)), (2, .ref mo), (1, .ref (kZ S0)), (0, .ref b)]) C.1 C.2.1 dL_law_19 rfl hl (by decide) rfl (fun ls hl => ?_)
    refine lv_iconst (v := 0) C.1 C.2.1 dL_law_20 (by decide) ?_
    refine lv_istore (lv' := [(4, .int 0), (3, .ref (mo + 62)), (2, .ref mo), (1, .ref (kZ S0)), (0, .ref b)]) C.1 C.2.1 dL_law_21 hl (by decide) rfl (fun ls hl => ?_)
    have hk0 : ∀ q, mo ≤ q → kK S2 q = 0 := fun q hq => by
      by_cases h : kK S2 q = 0
      · exact h
      · exact absurd (hJ.1.2.1 q h) (by rw [← e_mo]; omega)
    have hle : kZ S0 ≤ mo := by rw [e_mo]; exact hJ.2.2.2.1
    have hmA : ∀ q, mA mo (fun k => mo + 1 + mRk k) q → mo ≤ q ∧ q < mo + 62 := fun q hq => by
      rcases hq with rfl | ⟨k, hk, rfl⟩
      · omega
      · have hk8 : k < 80 := Nat.not_le.mp fun h => hk (mt_len k h)
        have := mt_rk k hk8 hk
        show mo ≤ mo + 1 + mRk k ∧ mo + 1 + mRk k < mo + 62
        omega
    have hD : mD mo (fun k => mo + 1 + mRk k) := ⟨fun k _ => by show mo + 1 + mRk k ≠ mo; omega, fun j k hj hk he => mt_inj j (Nat.not_le.mp fun h => hj (mt_len j h)) k (Nat.not_le.mp fun h => hk (mt_len k h)) hj hk (by have he' : mo + 1 + mRk j = mo + 1 + mRk k := he; omega)⟩
    have X : lX l D S0 cM iS cI cZ mo (fun k => mo + 1 + mRk k) cA' b L xs s := ⟨hl0, X1, ⟨hKs, hD⟩, hW0, hnw, ⟨by rw [hz0]; exact hU, hNc⟩, ⟨hX, by rw [hz0]; exact hbl⟩, gL⟩
    have hm3 : mW cM iS cI cZ mo (fun k => mo + 1 + mRk k) mS0 H3 := hm.kept fun q hq => o4 q (hmA q hq).2
    have hz3 : H3.size = mo + 63 := z4
    have hJL : lJ D S0 cM iS cI cZ mo (fun k => mo + 1 + mRk k) (mo + 62) cA' s (cZn S2 H3.size) mS0 0 H3 (locs ++ Lx) := ⟨hJ3, hm3, ⟨_, e4, rfl⟩, fun q hq => ⟨hk0 q (hmA q hq).1, Nat.le_trans hle (hmA q hq).1, by show q < H3.size; rw [hz3]; have := (hmA q hq).2; omega⟩, hk0 _ (by omega), by omega, by show mo + 62 < H3.size; rw [hz3]; omega, fun h => absurd (hmA _ h).2 (by omega)⟩
    refine W.widen (k := 300 + 2201 * 0) (n := 170000 + 101882 * 0) (by decide) (by decide) ?_
    refine wl_loop (Ik := Ik) C X (by omega) (fun k hk => hA k (by omega)) ?_ 64 0 (by decide) (by decide) (hI0 H3.size (by rw [hz3, ← e_mo]; omega)) hJL (lv_sub hl [4, 3, 2, 1, 0] rfl)
    intro k S M o9 H9 locs9 ls9 hk9 hJ9
    refine lv_iconst (v := 1) C.1 C.2.1 dL_law_1956 (by decide) ?_
    refine va_forget (fun q hq => ?_) ?_
    · rw [← hz0]; exact (hJ9.1.2.2.1 q hq).elim (fun h => absurd h (hnw _)) id
    · refine W.widen (k := 600128) (n := 7301098) (by omega) (by omega) ?_
      exact lw_ret hx hb hr hlocks dL_law_1957
  obtain ⟨t2, a1, b1⟩ := key T' rfl Z'
  exact ⟨t2, st t2 a1, b1⟩
set_option maxHeartbeats 4000000 in
theorem lw_walk (hG : pGoal 448) (l : Launch) (hl0 : l.stackTraces = false) (b : Addr) (xs : List Int32) : MetFree l x (headSpec (Jvm.Cond.code x code maxLocals ret :: tables_1) room_1) (lw_P b xs) (fun _ _ _ _ _ => True) lw_Q := by
  refine MetFree.of_bodyS (code := code) (maxLocals := maxLocals) (ret := ret) (by decide) ?_ ?_
  · intro args s m h hn
    obtain ⟨meth, c, h1, h2, h3, h4, h5, h6, -, -⟩ := Cond.code_spec hn (atoms_spec (ws := Jvm.Cond.code x code maxLocals ret :: tables_1) h _ List.mem_cons_self)
    exact ⟨meth, c, h1, h2, h3, h4, h5, h6⟩
  · intro p e s m args below meth c s₁ B hml0 hP _
    obtain ⟨rfl, hx, hbd, hgv⟩ := hP
    obtain ⟨scr, harrAt, hlist, hof, hsmall⟩ := hx
    obtain ⟨hcb, hkn, -, -⟩ := State.arrayAt?_spec harrAt
    have hown : s.vm.findClass R_law = some m.cls := findClass_of_methodNamed B.named
    have hts0 : ∀ c ∈ (Jvm.Cond.code x code maxLocals ret :: tables_1), c.before #[Value.ref b] s = true := atoms_spec (ws := Jvm.Cond.code x code maxLocals ret :: tables_1) B.pre
    have hts : ∀ w ∈ lw_tbl, w.before #[Value.ref b] s = true := k2_hts_sels lw_privs (fun w hw => hts0 w (List.mem_cons_of_mem _ hw)) lw_privs_ok
    have hml : c.maxLocals = 7 := B.maxLocals_eq (hts0 _ List.mem_cons_self)
    have X₀ : Stand p l e room_1 s m #[Value.ref b] below meth c s₁ [] 0 0 := Stand.of_body B
    have hh0 : s₁.heap = s.heap := by rw [B.state]; rfl
    have hsz : scr.slots.size = xs.length := by rw [← Array.length_toList, hlist, List.length_map]
    have hval : ∀ j : Nat, j < xs.length → scr.slots[j]? = some (.int (xs.getD j 0)) := fun j hj => by
      rw [← Array.getElem?_toList, hlist]
      simp [hj]
    have hbl : b < s.heap.size := (Array.getElem?_eq_some_iff.mp hcb).1
    have hX : va_X b xs.length (fun j => xs.getD j 0) s s.heap := ⟨scr, hcb, hof, hkn, hsz, hval⟩
    have K : W p l e room_1 s m #[Value.ref b] below meth c s₁.heap [] 0 0 (lw_Z below #[Value.ref b] s) (entryFrame m ([Value.ref b] : List Value).toArray 7) := by
      rw [hh0]
      exact whole_start hG l hl0 hbd ⟨B.exec, B.bytes, B.returns, hml, hown, hts, hX, hbl, B.notSynchronized, hgv⟩
    obtain ⟨t, a1, o, b1, b2, b3⟩ := K s₁ rfl X₀
    exact ⟨t, o, a1, b1, b2, b3⟩
theorem lw_pre_spec {args : Array Value} {s : State} (h : (Jvm.Cond.and given_1 narrow_1).before args s = true) (hr : rest_1_c.before args s = true) : ∃ (b : Addr) (xs : List Int32), lw_P b xs args s := by
  have hs := flat_of_before _ h
  have hq := flat_of_before _ hr
  have hc : (Cond.count 1).before args s = true := hs _ (by decide +kernel)
  have harr : (Cond.arrayOf (.arg 0) .int).before args s = true := hs _ (by decide +kernel)
  have hle : (Cond.le (.length (.arg 0)) (.int 448)).before args s = true := hs _ (by decide +kernel)
  have hlen : (Cond.isInt (.length (.arg 0))).before args s = true := hq _ (by decide +kernel)
  have hall : (Cond.all (.arg 0) (.isInt (.elem (.arg 0) (.index 0)))).before args s = true := hq _ (by decide +kernel)
  obtain ⟨b, xs, hb, hx⟩ := State.ints_of_pre rfl harr hlen hall
  have hsm : xs.length < 2 ^ 31 := hx.choose_spec.2.2.2
  have hev : (Term.length (.arg 0)).eval args s none [] s = some (.int xs.length.toInt32) := hx.length_eval hb
  have hv := Cond.le_ints hev (show (Term.int 448).eval args s none [] s = some (.int 448) from rfl)
  have hd : xs.length.toInt32 ≤ 448 := by
    simpa [Cond.before, Cond.holds, hv] using hle
  have hN : xs.length ≤ 448 := (Int32.ofNat_le_ofNat hsm (by decide)).mp (show Int32.ofNat xs.length ≤ Int32.ofNat 448 from hd)
  exact ⟨b, xs, Cond.one_arg hc (show args[0]? = some (.ref b) from hb), hx, hN, h⟩
theorem lw_comes (hG : pGoal 448) (l : Launch) (hl0 : l.stackTraces = false) : Comes l x (Jvm.Cond.code x code maxLocals ret :: tables_1) room_1 (fun tb e args s => Calls_1 tb e args s ∧ rest_1 tb e args s ∧ Pre_1 tb e args s)
    (fun _ _ args s o t => lw_Q args s o t) := by
  intro p e ha hc hk s m args below hf hfit hheap happ hpre
  obtain ⟨b, xs, hP⟩ := lw_pre_spec hpre.2.2 hpre.2.1
  obtain ⟨k, o, h1, h2, h3, hQ⟩ := lw_walk hG l hl0 b xs p e ha hc hk s m args below hf ((Spec.applies_iff_loose hf).mp happ).1 hP trivial
  exact ⟨k, o, h1, h2, h3, hQ⟩
theorem lw_frame {s t : State} {o : Outcome} {args : Array Value} (h : Framed s o t [] 600128 7301098) :
    Framed s o t (fieldLocs frame_1_writes args s ++ arrayLocs frame_1_arrays args s ++ staticLocs frame_1_statics s) 600128 7301098 := h
theorem lw_limb (hG : pGoal 448) (L : Cond) (hL : ∀ (args : Array Value) (s t : State), L.after args s (.returned (some (.int 1))) t = true) :
    ArmFor flags0 classFile x code maxLocals ret World_1 tables_1 room_1 Calls_1 rest_1 Pre_1
      (fun tb e a s o t => postC L tb e a s o t ∧ Framed s o t (fieldLocs frame_1_writes a s ++ arrayLocs frame_1_arrays a s ++ staticLocs frame_1_statics s) 600128 7301098) := by
  intro l hfl _ _ p e ha hc hk s m args below hf hfit hheap happ hpre
  obtain ⟨k, o, h1, h2, h3, rfl, hF⟩ := lw_comes hG l (by unfold Launch.stackTraces; rw [hfl]; decide) p e ha hc hk s m args below hf hfit hheap happ hpre
  exact ⟨k, _, h1, h2, h3, hL args s _, lw_frame hF⟩
theorem p_vc (hG : pGoal 448) : Claimed_1_1 ∧ Claimed_1_2 := ⟨lw_limb hG limb_1_1 (fun args s t => by simp [limb_1_1, Cond.after, Cond.holds, Cond.value]), lw_limb hG limb_1_2 (fun args s t => Cond.after_iff.mpr (by
  first | (rw [show limb_1_2 = Cond.eq .result (.int 1) from rfl, Cond.eq_ints (x := 1) (y := 1) rfl rfl]; simp; done) | (simp [limb_1_2, Cond.value, Term.eval]; done)))⟩
