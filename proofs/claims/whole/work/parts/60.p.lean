-- part 60: both tell the same
section C
variable {M : mSt} {mkO : Nat → Option Nat} {sl : Nat → Int32} {l : List Nat} {r n : Nat}
theorem nmT_u (hA : rA M mkO sl) (hr : nxt M l r) (hc : cl M l) {m : Nat} (hm : mde M m) (hnm : Int32.ofNat (rNm m) = nmT M (sbj M r)) : m ∈ l ++ [r] ∧ (M.2 9 (sbj M r) = 0 → m = sbj M r) ∧ (M.2 9 (sbj M r) ≠ 0 → M.2 10 (sbj M r) = Int32.ofNat (rNm m)) := by
  have hmt := sbj_md hA hr.1
  obtain ⟨j, m', _, j2, j3, _, j5, j6, _⟩ := slT hA hmt (sbj_nt hA hr.1)
  have e : m' = m := rNm_inj j3.1 hm.1 (j5.trans hnm.symm)
  subst e
  have hin := sbj_in hA hr
  rcases j6 with ⟨h0, h1⟩ | ⟨h0, h1⟩
  · exact ⟨h1 ▸ hin, fun _ => h1, fun h => absurd h0 h⟩
  · refine ⟨cl_kn (cl_app hc hr) hin j3 h1, fun h => absurd h h0, fun _ => ?_⟩
    unfold nmT at hnm
    rw [if_neg h0] at hnm
    exact hnm.symm
theorem inLs_same (hA : rA M mkO sl) (hr : nxt M l r) {x q : Nat} (h : M.2 9 (sbj M r) = 0 ∨ M.2 9 (sbj M r) = 1 ∨ M.2 9 (sbj M r) = 12 → Int32.ofNat (rNm x) ≠ nmT M (sbj M r)) : inLs M n (l ++ [r]) q x = inLs M n l q x := by
  have h1 : thN M (l ++ [r]) (Int32.ofNat (rNm x)) = thN M l (Int32.ofNat (rNm x)) := th_same hA hr
    (fun h0 => by have := h (Or.inl h0); unfold nmT at this; rwa [if_pos h0] at this)
    (fun h12 => by have := h (Or.inr (Or.inr h12)); unfold nmT at this; rwa [if_neg (by rw [h12]; decide)] at this)
  have h2 : ltV M (l ++ [r]) (Int32.ofNat (rNm x)) (M.2 34 (4 * n + q)) = ltV M l (Int32.ofNat (rNm x)) (M.2 34 (4 * n + q)) := by
    unfold ltV
    rw [lt_same hA hr (fun h1 hh => by
      have := h (Or.inr (Or.inl h1))
      unfold nmT at this
      rw [if_neg (by rw [h1]; decide)] at this
      exact this hh.1.symm)]
  unfold inLs
  rw [h1, h2]
theorem ob_app {x : Nat} : x ∈ obL M (l ++ [r]) ↔ x ∈ obL M l ∨ (x = r ∧ M.2 9 r = 0) := by
  rw [obL_mem, obL_mem, List.mem_append, List.mem_singleton]
  constructor
  · rintro ⟨h | h, h2⟩
    · exact Or.inl ⟨h, h2⟩
    · subst h; exact Or.inr ⟨rfl, h2⟩
  · rintro (⟨h, h2⟩ | ⟨h, h2⟩)
    · exact ⟨Or.inl h, h2⟩
    · subst h; exact ⟨Or.inr rfl, h2⟩
theorem inLs_in {x q : Nat} (hx : x < 1000) (h : inLs M n l q x = true) : x ∈ l := by
  unfold inLs thN mkN at h
  rw [rOf_nm hx] at h
  simp only [Bool.and_eq_true, decide_eq_true_iff] at h
  exact h.2.2.1.1.1
theorem liL_ord (hA : rA M mkO sl) (hc : cl M l) (q : Nat) : ((liL M n l q).map rNm).Pairwise (· < ·) := by
  rw [List.pairwise_map]
  unfold liL
  rw [obL_obS hA hc]
  exact (obS_ord hA l 48).filter _
theorem tu_one (hA : rA M mkO sl) (hc : cl M l) (hr : nxt M l r) {m : Nat} (hm : mde M m) (h0 : M.2 9 m = 0) (hnm : Int32.ofNat (rNm m) = nmT M (sbj M r)) (q : Nat) : mdf ((liL M n l q).map rNm) ((liL M n (l ++ [r]) q).map rNm) = if inLs M n l q m = inLs M n (l ++ [r]) q m then [] else [(rNm m, b2 (inLs M n (l ++ [r]) q m = true))] := by
  have hcl := cl_app hc hr
  obtain ⟨u1, u2, u3⟩ := nmT_u hA hr hc hm hnm
  have oA := liL_ord (n := n) hA hc q
  have oB := liL_ord (n := n) hA hcl q
  have other : ∀ x, x < 1000 → x ≠ m → (x ∈ liL M n l q ↔ x ∈ liL M n (l ++ [r]) q) := fun x hx hne => by
    have hnx : Int32.ofNat (rNm x) ≠ nmT M (sbj M r) := fun e => hne (rNm_inj hx hm.1 (e.trans hnm.symm))
    unfold liL
    rw [List.mem_filter, List.mem_filter, ob_app, inLs_same hA hr (fun _ => hnx)]
    constructor
    · rintro ⟨h1, h2⟩; exact ⟨Or.inl h1, h2⟩
    · rintro ⟨h1 | ⟨h1, h3⟩, h2⟩
      · exact ⟨h1, h2⟩
      · subst h1
        have e := sbj_no (M := M) (r := x) (by rw [h3]; unfold tuS; decide)
        exact absurd (u2 (by rw [e]; exact h3)) (fun h => hne (h.trans e).symm)
  have mA : m ∈ liL M n l q ↔ inLs M n l q m = true := by
    unfold liL
    rw [List.mem_filter, obL_mem]
    exact ⟨fun h => h.2, fun h => ⟨⟨inLs_in hm.1 h, h0⟩, h⟩⟩
  have mB : m ∈ liL M n (l ++ [r]) q ↔ inLs M n (l ++ [r]) q m = true := by
    unfold liL
    rw [List.mem_filter, obL_mem]
    exact ⟨fun h => h.2, fun h => ⟨⟨u1, h0⟩, h⟩⟩
  have lt1 : ∀ x ∈ liL M n l q, x < 1000 := fun x hx => cl_lt hc x (obL_mem.mp (List.mem_filter.mp hx).1).1
  have lt2 : ∀ x ∈ liL M n (l ++ [r]) q, x < 1000 := fun x hx => cl_lt hcl x (obL_mem.mp (List.mem_filter.mp hx).1).1
  have inj : ∀ x y : Nat, x < 1000 → y < 1000 → rNm x = rNm y → x = y := fun x y hx hy h => rNm_inj hx hy (by rw [h])
  have nm : ∀ (L : List Nat), (∀ x ∈ L, x < 1000) → ∀ x, x < 1000 → (rNm x ∈ L.map rNm ↔ x ∈ L) := fun L hL x hx => by
    rw [List.mem_map]
    exact ⟨fun ⟨y, hy, e⟩ => inj y x (hL y hy) hx e ▸ hy, fun h => ⟨x, h, rfl⟩⟩
  cases ha : inLs M n l q m <;> cases hb : inLs M n (l ++ [r]) q m
  · rw [if_pos rfl]
    have e : (liL M n l q).map rNm = (liL M n (l ++ [r]) q).map rNm := ord_ext (K := fun n => n) oA oB fun y => by
      rw [List.mem_map, List.mem_map]
      constructor
      · rintro ⟨x, hx, e⟩
        exact ⟨x, (other x (lt1 x hx) (fun h => by subst h; rw [mA, ha] at hx; cases hx)).mp hx, e⟩
      · rintro ⟨x, hx, e⟩
        exact ⟨x, (other x (lt2 x hx) (fun h => by subst h; rw [mB, hb] at hx; cases hx)).mpr hx, e⟩
    rw [e, mdf_same]
  · rw [if_neg (by decide), b2_t rfl]
    refine mdf_in oA oB (fun h => ?_) fun y => ?_
    · rw [nm _ lt1 m hm.1, mA, ha] at h; cases h
    · rw [List.mem_map, List.mem_map]
      constructor
      · rintro ⟨x, hx, e⟩
        by_cases hxm : x = m
        · subst hxm; exact Or.inl e.symm
        · exact Or.inr ⟨x, (other x (lt2 x hx) hxm).mpr hx, e⟩
      · rintro (h | ⟨x, hx, e⟩)
        · exact ⟨m, mB.mpr hb, h.symm⟩
        · exact ⟨x, (other x (lt1 x hx) (fun h => by subst h; rw [mA, ha] at hx; cases hx)).mp hx, e⟩
  · rw [if_neg (by decide), b2_f (by decide)]
    refine mdf_out oA oB (fun h => ?_) fun y => ?_
    · rw [nm _ lt2 m hm.1, mB, hb] at h; cases h
    · rw [List.mem_map, List.mem_map]
      constructor
      · rintro ⟨x, hx, e⟩
        by_cases hxm : x = m
        · subst hxm; exact Or.inl e.symm
        · exact Or.inr ⟨x, (other x (lt1 x hx) hxm).mp hx, e⟩
      · rintro (h | ⟨x, hx, e⟩)
        · exact ⟨m, mA.mpr ha, h.symm⟩
        · exact ⟨x, (other x (lt2 x hx) (fun h => by subst h; rw [mB, hb] at hx; cases hx)).mpr hx, e⟩
  · rw [if_pos rfl]
    have e : (liL M n l q).map rNm = (liL M n (l ++ [r]) q).map rNm := ord_ext (K := fun n => n) oA oB fun y => by
      rw [List.mem_map, List.mem_map]
      constructor
      · rintro ⟨x, hx, e⟩
        by_cases hxm : x = m
        · subst hxm; exact ⟨x, mB.mpr hb, e⟩
        · exact ⟨x, (other x (lt1 x hx) hxm).mp hx, e⟩
      · rintro ⟨x, hx, e⟩
        by_cases hxm : x = m
        · subst hxm; exact ⟨x, mA.mpr ha, e⟩
        · exact ⟨x, (other x (lt2 x hx) hxm).mpr hx, e⟩
    rw [e, mdf_same]
/-- both tell the same turns -/
theorem tu_eq (hA : rA M mkO sl) (hc : cl M l) (hr : nxt M l r) {m : Nat} (hm : mde M m) (h0 : M.2 9 m = 0) (hnm : Int32.ofNat (rNm m) = nmT M (sbj M r)) : tuA r (liL M n l) (liL M n (l ++ [r])) 4 = (if M.2 9 (sbj M r) = 0 ∨ M.2 9 (sbj M r) = 1 ∨ M.2 9 (sbj M r) = 12 then tuC r (Int32.ofNat (rNm m)) (fun q => inLs M n l q m) (fun q => inLs M n (l ++ [r]) q m) else []) := by
  have key : ∀ k, tuA r (liL M n l) (liL M n (l ++ [r])) k = ((List.range k).filter (fun q => decide (inLs M n l q m ≠ inLs M n (l ++ [r]) q m))).map (fun q => (Int32.ofNat (rNm r), Int32.ofNat q, Int32.ofNat (rNm m), b2 (inLs M n (l ++ [r]) q m = true))) := by
    intro k
    induction k with
    | zero => rfl
    | succ k ih =>
      rw [tuA_succ, ih, rng_flt, List.map_append, tu_one hA hc hr hm h0 hnm]
      congr 1
      by_cases h : inLs M n l k m = inLs M n (l ++ [r]) k m
      · rw [if_pos h]; simp [h, tuE]
      · rw [if_neg h]; simp [h, tuE]
  rw [key]
  by_cases hs : M.2 9 (sbj M r) = 0 ∨ M.2 9 (sbj M r) = 1 ∨ M.2 9 (sbj M r) = 12
  · rw [if_pos hs]; rfl
  · rw [if_neg hs]
    have : (List.range 4).filter (fun q => decide (inLs M n l q m ≠ inLs M n (l ++ [r]) q m)) = [] := by
      rw [List.filter_eq_nil_iff]
      intro q _
      rw [inLs_same hA hr (fun h => absurd h hs)]
      simp
    rw [this]; rfl
/-- parents of slots without objects are none -/
theorem paL_none {L : List Nat} (hmv : ∀ q ∈ L, mvOk M mkO sl l q) : ∀ j, paL M mkO sl L j ≠ none → ∃ m, mkO j = some m ∧ m ∈ l := by
  have key : ∀ (L : List Nat) (pr : Nat → Option Nat), (∀ q ∈ L, mvOk M mkO sl l q) → (∀ j, pr j ≠ none → ∃ m, mkO j = some m ∧ m ∈ l) → ∀ j, L.foldl (pSt M mkO sl) pr j ≠ none → ∃ m, mkO j = some m ∧ m ∈ l := by
    intro L
    induction L with
    | nil => intro pr _ h; exact h
    | cons q L ih =>
      intro pr hL h
      rw [List.foldl_cons]
      refine ih _ (fun x hx => hL x (List.mem_cons_of_mem _ hx)) fun j hj => ?_
      obtain ⟨s, m, m1, m2, m3, m4, m5, m6, -⟩ := hL q List.mem_cons_self
      have es : (sl q).toNatClampNeg = s := by rw [m5, jI_cl (by omega)]
      unfold pSt at hj
      rw [es] at hj
      have fin : ∀ o, upo pr s o j ≠ none → ∃ m, mkO j = some m ∧ m ∈ l := fun o ho => by
        by_cases e : j = s
        · subst e; exact ⟨m, m1, m2⟩
        · rw [upo_o _ _ e] at ho; exact h j ho
      cases hsl : slF mkO (M.2 12 q) with
      | none => rw [hsl] at hj; exact fin _ hj
      | some p =>
        rw [hsl] at hj
        have hj : (if undr pr s 48 (some p) then pr else upo pr s (some p)) j ≠ none := hj
        cases hu : undr pr s 48 (some p) with
        | true => rw [hu] at hj; exact h j hj
        | false => rw [hu] at hj; exact fin _ hj
  exact key L _ hmv (fun j h => absurd rfl h)
/-- the parent of an object by its name, as the reference keeps it -/
def nmP (mkO : Nat → Option Nat) (pr : Nat → Option Nat) (m : Nat) : Int32 := nmI mkO (pr ((slF mkO (Int32.ofNat (rNm m))).getD 0))
theorem mv_in (hA : rA M mkO sl) {u : List Nat} (hc : cl M u) : ∀ q ∈ mvL M u, mvOk M mkO sl u q := fun q hq => by
  unfold mvL at hq
  rw [mem_srt, List.mem_filter, Bool.and_eq_true, decide_eq_true_iff] at hq
  exact mvOk_cl hA hc q hq.1 hq.2.1
theorem pI_inj {pr pr' : Nat → Option Nat} {j : Nat} (h1 : ∀ q, pr j = some q → q < 48) (h2 : ∀ q, pr' j = some q → q < 48) : pI pr j = pI pr' j ↔ pr j = pr' j := by
  unfold pI
  cases e1 : pr j with
  | none =>
    cases e2 : pr' j with
    | none => simp
    | some b =>
      have := h2 b e2
      refine ⟨fun q => absurd ((jI_inj (a := 0) (by omega) (by omega)).mp q) (by omega), fun q => by cases q⟩
  | some a =>
    have := h1 a e1
    cases e2 : pr' j with
    | none => exact ⟨fun q => absurd ((jI_inj (b := 0) (by omega) (by omega)).mp q) (by omega), fun q => by cases q⟩
    | some b =>
      have := h2 b e2
      refine ⟨fun q => ?_, fun q => by cases q; rfl⟩
      have := (jI_inj (by omega) (by omega)).mp q
      congr 1; omega
theorem nmI_inj (hA : rA M mkO sl) {a b : Option Nat} (h1 : ∀ q, a = some q → ∃ m, mkO q = some m) (h2 : ∀ q, b = some q → ∃ m, mkO q = some m) : nmI mkO a = nmI mkO b ↔ a = b := by
  cases a with
  | none =>
    cases b with
    | none => simp
    | some b =>
      obtain ⟨m, hm⟩ := h2 b rfl
      refine ⟨fun q => ?_, fun q => by cases q⟩
      unfold nmI at q
      simp only [hm] at q
      exact absurd q.symm (rNm_ne (hA.2.1.1 b m hm).2.1.1)
  | some a =>
    obtain ⟨m, hm⟩ := h1 a rfl
    cases b with
    | none =>
      refine ⟨fun q => ?_, fun q => by cases q⟩
      unfold nmI at q
      simp only [hm] at q
      exact absurd q (rNm_ne (hA.2.1.1 a m hm).2.1.1)
    | some b =>
      obtain ⟨m', hm'⟩ := h2 b rfl
      refine ⟨fun q => ?_, fun q => by cases q; rfl⟩
      unfold nmI at q
      simp only [hm, hm'] at q
      rw [(mk_nm hA hm hm').mp q]
/-- the news of a move, by slots and by objects -/
theorem nw_move (hA : rA M mkO sl) (hc : cl M l) (hr : nxt M l r) (hs : M.2 9 (sbj M r) = 11) : nwC M mkO r (sbj M r) (sgt M mkO sl l (sbj M r)) (sgt M mkO sl (l ++ [r]) (sbj M r)) = ((obL M (l ++ [r])).filter (fun m => decide (nmP mkO (paL M mkO sl (mvL M l)) m ≠ nmP mkO (paL M mkO sl (mvL M (l ++ [r]))) m))).map (fun m => (Int32.ofNat (rNm r), Int32.ofNat (rNm m), 6, 0)) := by
  have hcl := cl_app hc hr
  have hne0 : M.2 9 r ≠ 0 := fun h => by
    have e := sbj_no (M := M) (r := r) (by rw [h]; unfold tuS; decide)
    rw [e, h] at hs; exact absurd hs (by decide)
  have hob : obS mkO (l ++ [r]) 48 = obS mkO l 48 := by
    rw [← obL_obS hA hcl, ← obL_obS hA hc]
    unfold obL
    rw [List.filter_append, List.filter_cons]
    have : mkP M r = false := decide_eq_false hne0
    rw [this]; simp
  rw [obL_obS hA hcl, hob]
  unfold nwC
  rw [if_pos hs]
  have hsg : ∀ u i, sgt M mkO sl u (sbj M r) i = pI (paL M mkO sl (mvL M u)) i := fun u i => by
    unfold sgt
    simp only [hs, show ¬ ((11 : Int32) = 0) by decide, show ¬ ((11 : Int32) = 12) by decide, show ¬ ((11 : Int32) = 1) by decide, show ¬ ((11 : Int32) = 2) by decide, show ¬ ((11 : Int32) = 3) by decide, show ¬ ((11 : Int32) = 4 ∨ (11 : Int32) = 5 ∨ (11 : Int32) = 6) by decide, show ¬ ((11 : Int32) = 7 ∨ (11 : Int32) = 8) by decide, show ¬ ((11 : Int32) = 9 ∨ (11 : Int32) = 10) by decide, if_false, if_true]
  simp only [hsg]
  have hp1 := paL_none (mv_in hA hc)
  have hp2 := paL_none (mv_in hA hcl)
  have hq1 := par_in (slK_cl hA hc) (mv_in hA hc)
  have hq2 := par_in (slK_cl hA hcl) (mv_in hA hcl)
  generalize paL M mkO sl (mvL M l) = pr at *
  generalize paL M mkO sl (mvL M (l ++ [r])) = pr' at *
  have lt1 : ∀ j q, pr j = some q → q < 48 := fun j q h => by obtain ⟨m, hm, _⟩ := hq1 j q h; exact (hA.2.1.1 q m hm).1
  have lt2 : ∀ j q, pr' j = some q → q < 48 := fun j q h => by obtain ⟨m, hm, _⟩ := hq2 j q h; exact (hA.2.1.1 q m hm).1
  have key : ∀ k, ((List.range k).filter (fun i => decide (pI pr i ≠ pI pr' i))).map (fun i => (Int32.ofNat (rNm r), nmJ mkO i, (6 : Int32), (0 : Int32))) = ((obS mkO l k).filter (fun m => decide (nmP mkO pr m ≠ nmP mkO pr' m))).map (fun m => (Int32.ofNat (rNm r), Int32.ofNat (rNm m), (6 : Int32), (0 : Int32))) := by
    intro k
    induction k with
    | zero => rfl
    | succ k ih =>
      rw [rng_flt, obS_succ, List.map_append, List.filter_append, List.map_append, ih]
      congr 1
      have none1 : (∀ m, mkO k = some m → m ∉ l) → pI pr k = pI pr' k := fun h => by
        have e1 : pr k = none := Classical.byContradiction fun hn => by obtain ⟨m, a, b⟩ := hp1 k hn; exact h m a b
        have e2 : pr' k = none := Classical.byContradiction fun hn => by
          obtain ⟨m, a, b⟩ := hp2 k hn
          rcases List.mem_append.mp b with b | b
          · exact h m a b
          · have : m = r := List.mem_singleton.mp b
            subst this
            exact hne0 (hA.2.1.1 k m a).2.2
        unfold pI
        rw [e1, e2]
      cases hm : mkO k with
      | none =>
        have := none1 (fun m h => by rw [hm] at h; cases h)
        simp [this]
      | some m =>
        by_cases hml : m ∈ l
        · have hslot : (slF mkO (Int32.ofNat (rNm m))).getD 0 = k := by
            rw [slF_mk hA.2.1.2.1 (fun j m h => ⟨(hA.2.1.1 j m h).1, (hA.2.1.1 j m h).2.1.1⟩) hm]; rfl
          have hnj : nmJ mkO k = Int32.ofNat (rNm m) := by unfold nmJ; rw [hm]
          have hiff : pI pr k = pI pr' k ↔ nmP mkO pr m = nmP mkO pr' m := by
            unfold nmP
            rw [hslot, pI_inj (lt1 k) (lt2 k), nmI_inj hA (fun q h => by obtain ⟨m, hm, _⟩ := hq1 k q h; exact ⟨m, hm⟩) (fun q h => by obtain ⟨m, hm, _⟩ := hq2 k q h; exact ⟨m, hm⟩)]
          by_cases h : pI pr k = pI pr' k
          · simp [h, hiff.mp h, hml]
          · have h' : ¬ nmP mkO pr m = nmP mkO pr' m := fun q => h (hiff.mpr q)
            simp [h, h', hml, hnj]
        · have := none1 (fun m' h => by rw [hm] at h; cases h; exact hml)
          simp [this, hml]
  exact key 48
end C
