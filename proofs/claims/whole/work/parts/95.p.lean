-- part 95: ranked, the call
section V
variable {S S' : cSt} {M A : mSt} {ra : Nat → Nat} {sl : Nat → Int32} {mkO : Nat → Option Nat} {x0 n k : Nat} {l : List Nat} {L Wt : Nat → List Nat} {Bt : Nat}
/-- of the kind, and there -/
def rkP (M : mSt) (l : List Nat) (v2 : Int32) (m : Nat) : Bool := decide (M.2 12 m = v2) && thN M l (Int32.ofNat (rNm m))
def rkJ (M : mSt) (mkO : Nat → Option Nat) (l : List Nat) (v2 : Int32) (j : Nat) : Bool := match mkO j with | none => false | some m => decide (m ∈ l) && rkP M l v2 m
theorem rkJ_y {v2 : Int32} {j : Nat} (h : rkJ M mkO l v2 j = true) : ∃ m, mkO j = some m ∧ m ∈ l ∧ M.2 12 m = v2 ∧ thN M l (Int32.ofNat (rNm m)) = true := by
  unfold rkJ at h
  cases hm : mkO j with
  | none => rw [hm] at h; cases h
  | some m =>
    rw [hm] at h
    have h' : (decide (m ∈ l) && rkP M l v2 m) = true := h
    unfold rkP at h'
    simp only [Bool.and_eq_true] at h'
    exact ⟨m, rfl, of_decide_eq_true h'.1, of_decide_eq_true h'.2.1, h'.2.2⟩
theorem rkJ_n {v2 : Int32} {j : Nat} (h : rkJ M mkO l v2 j = false) : ¬ ∃ m, mkO j = some m ∧ m ∈ l ∧ M.2 12 m = v2 ∧ thN M l (Int32.ofNat (rNm m)) = true := by
  rintro ⟨m, h1, h2, h3, h4⟩
  unfold rkJ at h
  rw [h1] at h
  have h' : (decide (m ∈ l) && rkP M l v2 m) = false := h
  unfold rkP at h'
  rw [decide_eq_true h2, decide_eq_true h3, h4] at h'
  cases h'
/-- ranks of a list of rows -/
def rkL (key : Nat → Int32) (T : List Nat) : List Nat := T.foldl (insL key) []
theorem rkL_app (key : Nat → Int32) (T : List Nat) (x : Nat) : rkL key (T ++ [x]) = insL key (rkL key T) x := by unfold rkL; rw [List.foldl_append]; rfl
theorem rkL_len (key : Nat → Int32) (T : List Nat) : (rkL key T).length = T.length := by
  have : ∀ (T acc : List Nat), (T.foldl (insL key) acc).length = acc.length + T.length := by
    intro T
    induction T with
    | nil => intro acc; rfl
    | cons a T ih => intro acc; rw [List.foldl_cons, ih, insL_len, List.length_cons]; omega
  unfold rkL; rw [this]; simp
theorem rkL_mem (key : Nat → Int32) (T : List Nat) : ∀ y, y ∈ rkL key T → y ∈ T := by
  have : ∀ (T acc : List Nat) (y : Nat), y ∈ T.foldl (insL key) acc → y ∈ acc ∨ y ∈ T := by
    intro T
    induction T with
    | nil => intro acc y h; exact Or.inl h
    | cons a T ih =>
      intro acc y h
      rw [List.foldl_cons] at h
      rcases ih _ _ h with h | h
      · rcases insL_mem.mp h with h | h
        · exact Or.inl h
        · exact Or.inr (by rw [h]; exact List.mem_cons_self)
      · exact Or.inr (List.mem_cons_of_mem _ h)
  intro y h
  rcases this T [] y h with h | h
  · cases h
  · exact h
theorem rkL_map {key key' : Nat → Int32} {g : Nat → Nat} (T : List Nat) (h : ∀ r ∈ T, key' (g r) = key r) : rkL key' (T.map g) = (rkL key T).map g := by
  have : ∀ (T acc : List Nat), (∀ r ∈ T, key' (g r) = key r) → (∀ r ∈ acc, key' (g r) = key r) → (T.map g).foldl (insL key') (acc.map g) = (T.foldl (insL key) acc).map g := by
    intro T
    induction T with
    | nil => intro acc _ _; rfl
    | cons a T ih =>
      intro acc h1 h2
      rw [List.map_cons, List.foldl_cons, List.foldl_cons, insL_map a acc (h1 a List.mem_cons_self) h2]
      refine ih _ (fun r hr => h1 r (List.mem_cons_of_mem _ hr)) (fun r hr => ?_)
      rcases insL_mem.mp hr with q | q
      · exact h2 r q
      · rw [q]; exact h1 a List.mem_cons_self
  exact this T [] h (fun r hr => by cases hr)
theorem k_rankGo (hA : rA M mkO sl) (hc : cl M l) {bk la va ua vb : Nat} (hQ : cQ M ra sl (chF M sl) (mde M) mkO S bk la va ua 1000 vb l) (hbk : bk = x0 + 5) (hla : x0 + 21 ≤ la) (hua : x0 + 21 ≤ ua) (hva : x0 + 21 ≤ va) (h12 : kK S x0 = 12) (h1r : kR S x0 1 = some bk) (h7 : kR S x0 7 = some (x0 + 20)) (h20 : kK S (x0 + 20) = 20) (h48 : kL S (x0 + 20) = 48) {kd p : Nat} (hkd : kd < 8) (hp : p < 6) (h76 : M.2 6 (6 * kd + p) = 76) {key : Nat → Int32} (hkey : ∀ j m, mkO j = some m → key j = ltV M l (Int32.ofNat (rNm m)) (Int32.ofNat p)) (v4 : Int32) : ∃ f', fk_11_ranked_40 mFU S x0 (Int32.ofNat kd) (Int32.ofNat p) v4 va 0 0 = some (if v4 < 0 then -1 else (((rkL key ((List.range 48).filter (rkJ M mkO l (Int32.ofNat kd)))).map (nmJ mkO))[v4.toNatClampNeg]?).getD (-1), sI S (x0 + 20) f') := by
  have hup : l.take 1000 = l := List.take_of_length_le (cl_len hc)
  have q : ∀ f, cQ M ra sl (chF M sl) (mde M) mkO (sI S (x0 + 20) f) bk la va ua 1000 vb l := fun f => cQ_w (W := fun a => a = x0 + 20) hQ (cEq_sI f rfl) (fun a ha => by have := hQ.2.2.2.2.2; omega)
  generalize hF : rkJ M mkO l (Int32.ofNat kd) = F
  have hlt : ∀ f j m, j < 48 → mkO j = some m → M.2 12 m = Int32.ofNat kd → fk_10_latestOf (sI S (x0 + 20) f) va (Int32.ofNat j * 8 + Int32.ofNat p) = some (key j) := fun f j m hj hm h12 => by
    have hpt : ptO M mkO j m kd p 76 := ⟨hm, h12, hkd, hp, h76, by decide⟩
    rw [k_c8, k_latestOf (c := 8 * j + p) (by omega) (q f).1 (q f).2.1 (q f).2.2.1 (q f).2.2.2.1, lk_L hA hc hpt 1000, hup, hkey j m hm]
    unfold ltV oV
    cases ltB M l (Int32.ofNat (rNm m)) (Int32.ofNat p) <;> rfl
  have key' : ∀ (j i fu : Nat) (f : Nat → Int32), i + j = 48 → j < fu → (∀ x (h : x < (rkL key ((List.range i).filter F)).length), f x = Int32.ofNat (rkL key ((List.range i).filter F))[x]) → ∃ f', fk_11_ranked_40 fu (sI S (x0 + 20) f) x0 (Int32.ofNat kd) (Int32.ofNat p) v4 va (Int32.ofNat ((List.range i).filter F).length) (Int32.ofNat i) = some (if v4 < 0 then -1 else (((rkL key ((List.range 48).filter F)).map (nmJ mkO))[v4.toNatClampNeg]?).getD (-1), sI S (x0 + 20) f') := by
    intro j
    induction j with
    | zero =>
      intro i fu f hi hfu hf
      obtain ⟨fu, rfl⟩ : ∃ q, fu = q + 1 := ⟨fu - 1, by omega⟩
      have e : i = 48 := by omega
      subst e
      refine ⟨f, ?_⟩
      have hl := List.length_filter_le F (List.range 48)
      rw [List.length_range] at hl
      rw [fk_11_ranked_40, if_pos (show (48 : Int32) ≤ Int32.ofNat 48 by decide)]
      unfold fk_11_ranked_107 fk_11_ranked_108
      by_cases c : v4 < 0
      · rw [if_pos c, if_pos c]
      rw [if_neg c, if_neg c]
      by_cases c2 : Int32.ofNat ((List.range 48).filter F).length ≤ v4
      · rw [if_pos c2, List.getElem?_eq_none]; · rfl
        rw [List.length_map, rkL_len]
        rw [jI_of c, jI_le (by omega) (jI_clt _)] at c2
        exact c2
      · obtain ⟨x, hx, rfl⟩ := wiK (by omega) c c2
        have hx' : x < (rkL key ((List.range 48).filter F)).length := by rw [rkL_len]; exact hx
        have hr48 : (rkL key ((List.range 48).filter F))[x] < 48 := by
          have := rkL_mem key _ _ (List.getElem_mem hx')
          exact List.mem_range.mp (List.mem_filter.mp this).1
        rw [if_neg c2, ckk_y (show kK (sI S (x0 + 20) f) x0 = 12 from h12), show kR (sI S (x0 + 20) f) x0 1 = some bk from h1r, bd_s, ckk_y (show kK (sI S (x0 + 20) f) x0 = 12 from h12), show kR (sI S (x0 + 20) f) x0 7 = some (x0 + 20) from h7, bd_s, ckk_y (show kK (sI S (x0 + 20) f) (x0 + 20) = 20 from h20), show kL (sI S (x0 + 20) f) (x0 + 20) = 48 from h48, ck_n (by omega) (by omega), ckk_y (q f).1.1.1, jI_cl (by omega), kI_sI, hf x hx', k_nameJ (q f).1 hr48, bd_s, List.getElem?_map, List.getElem?_eq_getElem hx']; rfl
    | succ j ih =>
      intro i fu f hi hfu hf
      obtain ⟨fu, rfl⟩ : ∃ q, fu = q + 1 := ⟨fu - 1, by omega⟩
      have ih' := fun f => ih (i + 1) fu f (by omega) (by omega)
      have hl := List.length_filter_le F (List.range i)
      rw [List.length_range] at hl
      rw [fk_11_ranked_40, if_neg (jK 48 48 rfl (by omega) (by decide)), ckk_y (q f).2.2.1.1.1, k_isThereOf' hA hc (q f).1 (q f).2.1 (q f).2.2.1 (by omega), bd_s]
      unfold fk_11_ranked_72
      cases hb : F i
      · rw [b2_f (rkJ_n (by rw [hF]; exact hb)), if_pos rfl, lt_d, show (1 : Int32) = Int32.ofNat 1 from rfl, jI_add]
        have e : (List.range (i + 1)).filter F = (List.range i).filter F := by
          rw [List.range_succ, List.filter_append, List.filter_cons_of_neg (by rw [hb]; decide), List.filter_nil, List.append_nil]
        have := ih' f
        rw [e] at this
        exact this hf
      · have hy := rkJ_y (M := M) (mkO := mkO) (l := l) (v2 := Int32.ofNat kd) (j := i) (by rw [hF]; exact hb)
        obtain ⟨m, m1, m2, m3, m4⟩ := id hy
        have e : (List.range (i + 1)).filter F = (List.range i).filter F ++ [i] := by
          rw [List.range_succ, List.filter_append, List.filter_cons_of_pos (by rw [hb]), List.filter_nil]
        obtain ⟨f', f1, f2⟩ := k_rankIn (S := S) (x0 := x0) (va := va) (p := p) (x := i) (key := key) (R := rkL key ((List.range i).filter F)) h12 h7 h20 h48 hQ.2.2.1.1.1 (by rw [rkL_len]; omega) (fun f => hlt f i m (by omega) m1 m3) (fun f r hr => by
          have hr1 := List.mem_filter.mp (rkL_mem key _ _ hr)
          obtain ⟨m', n1, n2, n3, -⟩ := rkJ_y (M := M) (mkO := mkO) (l := l) (v2 := Int32.ofNat kd) (j := r) (by rw [hF]; exact hr1.2)
          exact hlt f r m' (by have := List.mem_range.mp hr1.1; omega) n1 n3) hf
        rw [rkL_len] at f1
        rw [b2_t hy, if_neg n10, ckk_y (show kK (sI S (x0 + 20) f) x0 = 12 from h12), f1, bd_s, lt_d, lt_d, show (1 : Int32) = Int32.ofNat 1 from rfl, jI_add, jI_add]
        have := ih' f'
        rw [e, rkL_app, List.length_append] at this
        exact this f2
  obtain ⟨f', hf'⟩ := key' 48 0 mFU (kI S (x0 + 20)) rfl (by decide) (fun x h => absurd h (by simp [rkL]))
  rw [sI_id] at hf'
  exact ⟨f', hf'⟩
theorem m_rankGo (h : mR M mkO sl n l) (e : mEx sc M A) {kd p : Nat} (hkd : kd < 8) (hp : p < 6) (h76 : M.2 6 (6 * kd + p) = 76) (v4 : Int32) : ∃ B, (bd (fm_findObjects A (Int32.ofNat n) (Int32.ofNat l.length)) fun S4 => lt (pu S4 77 0) fun S5 => fm_ranked_36 mFU S5 (Int32.ofNat n) (Int32.ofNat kd) (Int32.ofNat p) v4 0) = some (if v4 < 0 then -1 else (((rkL (fun m => ltV M l (Int32.ofNat (rNm m)) (Int32.ofNat p)) ((obL M l).filter (rkP M l (Int32.ofNat kd)))).map (fun m => Int32.ofNat (rNm m)))[v4.toNatClampNeg]?).getD (-1), B) ∧ mEx sc A B := by
  obtain ⟨hA, hc, h2, h23⟩ := id h
  have hn := h2.1
  have h48 := ob48 hA hc
  have hj := jOkL_cl hA hc
  obtain ⟨B0, b1, b2', b3, b4⟩ := m_findObjects e h2 h48
  rw [b1, bd_s, lt_d]
  have hlen : (obL M l).length ≤ 48 := by unfold obL; rw [len_srt]; exact h48
  have eB : mEx sc A B0 := mEx_mono b2' (fun k hk => by unfold wO at hk; unfold sc; omega)
  have e77 : mEx (fun k => wL k ∨ wN k) B0 (pu B0 77 0) := mEx_pu (Or.inr (Or.inl rfl)) _
  have hsc : ∀ k, wL k ∨ wN k → sc k := fun k hk => by
    rcases hk with hk | hk
    · exact wL_sc k hk
    · unfold wN at hk; unfold sc; omega
  generalize hg : rkP M l (Int32.ofNat kd) = g
  generalize hkey : (fun m => ltV M l (Int32.ofNat (rNm m)) (Int32.ofNat p)) = key
  have hWJ : ∀ k, wJ k → wL k := fun k hk => by unfold wJ at hk; unfold wL; omega
  have inN_L : ∀ {C D : mSt} {R : List Nat}, inN C key R → mEx wL C D → inN D key R := fun {C D R} hC eD => ⟨by rw [(eD 77 (by unfold wL; decide)).1]; exact hC.1, by rw [(eD 78 (by unfold wL; decide)).2, (eD 79 (by unfold wL; decide)).2]; exact hC.2⟩
  have key' : ∀ (j i fu : Nat) (C : mSt), i + j = (obL M l).length → j < fu → mEx (fun k => wL k ∨ wN k) B0 C → inN C key (rkL key (((obL M l).take i).filter g)) → ∃ D, fm_ranked_36 fu C (Int32.ofNat n) (Int32.ofNat kd) (Int32.ofNat p) v4 (Int32.ofNat i) = some (if v4 < 0 then -1 else (((rkL key ((obL M l).filter g)).map (fun m => Int32.ofNat (rNm m)))[v4.toNatClampNeg]?).getD (-1), D) ∧ mEx (fun k => wL k ∨ wN k) B0 D := by
    intro j
    induction j with
    | zero =>
      intro i fu C hi hf eC hN
      obtain ⟨fu, rfl⟩ : ∃ q, fu = q + 1 := ⟨fu - 1, by omega⟩
      refine ⟨C, ?_, eC⟩
      rw [List.take_of_length_le (by omega)] at hN
      have hl := List.length_filter_le g (obL M l)
      have hrl : (rkL key ((obL M l).filter g)).length ≤ 48 := by rw [rkL_len]; omega
      rw [fm_ranked_36, (eC 54 (by unfold wL wN; decide)).1, b3, if_pos ((jI_le (by omega) (by omega)).mpr (by omega)), hN.1, m_wb]
      unfold fm_ranked_221
      by_cases c : 0 ≤ v4 ∧ v4 ≤ Int32.ofNat (rkL key ((obL M l).filter g)).length - 1
      · obtain ⟨x, hx, rfl⟩ := (wiE (by omega)).mp c
        rw [b2_t c, if_neg n10, if_neg (jI_nn (by omega)), ck_n (by omega) (by omega), rd_n _ _ (by omega), (hN.2 x hx).1, jI_cl (by omega), List.getElem?_map, List.getElem?_eq_getElem hx]; rfl
      · rw [b2_f c, if_pos rfl]
        by_cases c2 : v4 < 0
        · rw [if_pos c2]
        · rw [if_neg c2, List.getElem?_eq_none]; · rfl
          rw [List.length_map]
          by_cases c3 : (rkL key ((obL M l).filter g)).length ≤ v4.toNatClampNeg
          · exact c3
          · exact absurd ((wiE (by omega)).mpr ⟨_, by omega, jI_of c2⟩) c
    | succ j ih =>
      intro i fu C hi hf eC hN
      obtain ⟨fu, rfl⟩ : ∃ q, fu = q + 1 := ⟨fu - 1, by omega⟩
      have hi' : i < (obL M l).length := by omega
      have eMC : mEx sc M C := mEx_trans e (mEx_trans eB (mEx_mono eC hsc))
      obtain ⟨js, j2, j3, j4⟩ := obL_pt hA hc hi'
      have no : ∀ D, mEx (fun k => wL k ∨ wN k) B0 D → inN D key (rkL key (((obL M l).take i).filter g)) → g (obL M l)[i] = false → ∃ E, fm_ranked_36 fu D (Int32.ofNat n) (Int32.ofNat kd) (Int32.ofNat p) v4 (Int32.ofNat (i + 1)) = some (if v4 < 0 then -1 else (((rkL key ((obL M l).filter g)).map (fun m => Int32.ofNat (rNm m)))[v4.toNatClampNeg]?).getD (-1), E) ∧ mEx (fun k => wL k ∨ wN k) B0 E := fun D eD hD hb => by
        refine ih (i + 1) fu D (by omega) (by omega) eD ?_
        rw [List.take_succ_eq_append_getElem hi', List.filter_append, List.filter_cons_of_neg (by rw [hb]; decide), List.filter_nil, List.append_nil]
        exact hD
      rw [fm_ranked_36, (eC 54 (by unfold wL wN; decide)).1, b3, if_neg (fun q => absurd ((jI_le (by omega) (by omega)).mp q) (by omega)), ck_n (by omega) (by omega), rd_n _ _ (by omega), (eC 55 (by unfold wL wN; decide)).2, b4 i hi', m_kindOf eMC (rOf_nm j4), bd_s]
      unfold fm_ranked_189
      by_cases c : M.2 12 (obL M l)[i] = Int32.ofNat kd
      · have hpt : ptO M mkO js (obL M l)[i] kd p 76 := ⟨j2, c, hkd, hp, h76, by decide⟩
        rw [if_pos c, ck_n (by omega) (by omega)]
        obtain ⟨D, d1, d2⟩ := m_isThereNow eMC h2 hj h23 (Int32.ofNat (rNm (obL M l)[i]))
        have eD : mEx (fun k => wL k ∨ wN k) B0 D := mEx_trans eC (mEx_mono d2 (fun k hk => Or.inl (hWJ k hk)))
        have hND := inN_L hN (mEx_mono d2 hWJ)
        rw [d1, bd_s, lt_d, lt_d]
        show ∃ D_1, (if b2 _ = 0 then _ else _) = _ ∧ _
        have hgi : g (obL M l)[i] = thN M l (Int32.ofNat (rNm (obL M l)[i])) := by rw [← hg]; unfold rkP; rw [decide_eq_true c]; rfl
        cases ht : thN M l (Int32.ofNat (rNm (obL M l)[i]))
        · rw [if_pos bFn, lt_d, show (1 : Int32) = Int32.ofNat 1 from rfl, jI_add]
          exact no D eD hND (by rw [hgi, ht])
        · have eMD : mEx sc M D := mEx_trans e (mEx_trans eB (mEx_mono eD hsc))
          obtain ⟨E, e1, e2⟩ := m_latestOf h eMD hpt
          have eE : mEx (fun k => wL k ∨ wN k) B0 E := mEx_trans eD (mEx_mono e2 (fun k hk => Or.inl hk))
          have hNE := inN_L hND e2
          have hx : rd D 55 (Int32.ofNat i) = Int32.ofNat (rNm (obL M l)[i]) := by rw [rd_n _ _ (by omega), (eD 55 (by unfold wL wN; decide)).2, b4 i hi']
          rw [if_neg bTn, ck_n (by omega) (by omega)]
          show ∃ D_1, bd (fm_latestOf D (Int32.ofNat n) (rd D 55 (Int32.ofNat i)) (Int32.ofNat p)) _ = _ ∧ _
          rw [hx, e1, bd_s, lt_d, lt_d, lt_d]
          have h55 : E.2 55 i = Int32.ofNat (rNm (obL M l)[i]) := by rw [(eE 55 (by unfold wL wN; decide)).2, b4 i hi']
          have hll := List.length_filter_le g ((obL M l).take i)
          rw [List.length_take] at hll
          obtain ⟨G, g1, g2, g3⟩ := m_rankIn (key := key) (R := rkL key (((obL M l).take i).filter g)) (x := (obL M l)[i]) (i5 := i) (by rw [rkL_len]; omega) (by omega) (fm_ranked_36 fu) (Int32.ofNat n) (Int32.ofNat kd) (Int32.ofNat p) v4 hNE h55
          have hk1 : key (obL M l)[i] = ltV M l (Int32.ofNat (rNm (obL M l)[i])) (Int32.ofNat p) := by rw [← hkey]
          rw [hk1] at g1
          obtain ⟨D', x1, x2⟩ := ih (i + 1) fu G (by omega) (by omega) (mEx_trans eE (mEx_mono g2 (fun k hk => Or.inr hk))) (by
            rw [List.take_succ_eq_append_getElem hi', List.filter_append, List.filter_cons_of_pos (by rw [hgi, ht]), List.filter_nil, rkL_app]
            exact g3)
          exact ⟨D', g1.trans x1, x2⟩
      · rw [if_neg c, lt_d, show (1 : Int32) = Int32.ofNat 1 from rfl, jI_add]
        exact no C eC hN (by rw [← hg]; unfold rkP; rw [decide_eq_false c]; rfl)
  obtain ⟨D, d1, d2⟩ := key' (obL M l).length 0 mFU (pu B0 77 0) (by omega) (by have : (1001 : Nat) < mFU := by decide
                                                                                omega) e77 ⟨pu_s _ _ _, fun i hi => absurd hi (by simp [rkL])⟩
  exact ⟨D, d1, mEx_trans eB (mEx_mono d2 hsc)⟩
theorem c_ranked (hk : k + 1 < 900) : lC_ranked x0 (Inv x0 k) (Inv x0 (k + 1)) := by
  intro S M v1 v2 v3 v4 h
  have h0 := Inv_0 h (by omega)
  unfold fk_11_ranked fm_ranked fk_11_ranked_21
  rw [lt_d, k_isNode, bd_s]
  generalize pu M 0 0 = A at h0 ⊢
  have h1 := Inv_1 h0 hk
  have h00 := h0
  obtain ⟨ra, sl, mkO, L, Wt, ro, fa, hc, hh, hkd, hth, htx, hro, hl, hnu⟩ := h0
  by_cases hv : 0 ≤ v1 ∧ v1 ≤ 3
  · obtain ⟨n, hn, rfl⟩ := wi3.mp hv
    obtain ⟨⟨hA, hsl, htb, hBt⟩, ⟨hB, -⟩, hN, -⟩ := hc
    obtain ⟨⟨hM1, hC1⟩, -⟩ := hN n hn
    obtain ⟨⟨hy, hv', hls⟩, -⟩ := hC1
    have hcl := hM1.1.2.1
    have hnd : x0 + 5 + 5 ≤ sN x0 n ∧ sN x0 n + 26 ≤ x0 + 5 + 128 := by unfold sN; omega
    have hsN : x0 + 22 ≤ sN x0 n := by unfold sN; omega
    rw [b2_t hv, if_neg n10, m_canBeAsked hkd hn, bd_s, ckk_y hh.1.1, hh.1.2.1, bd_s, ckk_y hkd.1.1, k_ruleOf hkd, bd_s]
    by_cases hr : rlO A v2 v3 = some 76
    · obtain ⟨kd, p, d1, d2, rfl, rfl, d5, -⟩ := rlO_y hkd hr
      obtain ⟨B, b1, b2'⟩ := m_rankGo hM1.1 (mEx_refl sc A) d1 d2 d5.symm v4
      let g : Nat → Nat := fun j => (mkO j).getD 0
      let key : Nat → Int32 := fun j => ltV A (L n) (Int32.ofNat (rNm (g j))) (Int32.ofNat p)
      have hg : ∀ j m, mkO j = some m → g j = m := fun j m hm => by show (mkO j).getD 0 = m; rw [hm]; rfl
      obtain ⟨f', f1⟩ := k_rankGo (x0 := x0) hA hcl (cQ_nv hcl hB hv' hnd) rfl (by omega) (by omega) (by omega) hh.1.1 hh.1.2.2.1 hh.1.2.2.2.2.2.2.2.2.1 hh.2.2.2.1.2.1 hh.2.2.2.1.2.2.1 d1 d2 d5.symm (key := key) (fun j m hm => by show ltV A (L n) (Int32.ofNat (rNm (g j))) (Int32.ofNat p) = _; rw [hg j m hm]) v4
      rw [b2_t hr, if_neg n10, hr, if_pos (show (some (76 : Int32)).getD 32 = 76 from rfl), k_nd hh hn, bd_s, ckk_y hy.1.1, hy.1.2.2.2.1, bd_s, f1, ck_n hn (by omega), rd_n _ _ (by omega), hM1.1.2.2.2, b1]
      have e1 : (obL A (L n)).filter (rkP A (L n) (Int32.ofNat kd)) = ((List.range 48).filter (rkJ A mkO (L n) (Int32.ofNat kd))).map g := by
        rw [obL_obS hA hcl]
        have key2 : ∀ i, (obS mkO (L n) i).filter (rkP A (L n) (Int32.ofNat kd)) = ((List.range i).filter (rkJ A mkO (L n) (Int32.ofNat kd))).map g := by
          intro i
          induction i with
          | zero => rfl
          | succ i ih =>
            rw [List.range_succ, List.filter_append, List.map_append, obS_succ, List.filter_append, ih]
            congr 1
            cases hm : mkO i with
            | none =>
              have h3 : rkJ A mkO (L n) (Int32.ofNat kd) i = false := by unfold rkJ; rw [hm]
              rw [List.filter_cons_of_neg (by rw [h3]; decide)]; rfl
            | some m =>
              have h2 : rkJ A mkO (L n) (Int32.ofNat kd) i = (decide (m ∈ L n) && rkP A (L n) (Int32.ofNat kd) m) := by unfold rkJ; rw [hm]
              show List.filter _ (if m ∈ L n then [m] else []) = _
              by_cases hml : m ∈ L n
              · rw [if_pos hml]
                rw [decide_eq_true hml, Bool.true_and] at h2
                cases ht : rkP A (L n) (Int32.ofNat kd) m
                · rw [List.filter_cons_of_neg (by rw [ht]; decide), List.filter_cons_of_neg (by rw [h2, ht]; decide)]; rfl
                · rw [List.filter_cons_of_pos ht, List.filter_cons_of_pos (by rw [h2, ht])]
                  show [m] = [g i]
                  rw [hg i m hm]
              · rw [if_neg hml]
                rw [decide_eq_false hml, Bool.false_and] at h2
                rw [List.filter_cons_of_neg (by rw [h2]; decide)]; rfl
        exact key2 48
      have e2 : (rkL (fun m => ltV A (L n) (Int32.ofNat (rNm m)) (Int32.ofNat p)) ((obL A (L n)).filter (rkP A (L n) (Int32.ofNat kd)))).map (fun m => Int32.ofNat (rNm m)) = (rkL key ((List.range 48).filter (rkJ A mkO (L n) (Int32.ofNat kd)))).map (nmJ mkO) := by
        rw [e1, rkL_map (key := key) (key' := fun m => ltV A (L n) (Int32.ofNat (rNm m)) (Int32.ofNat p)) (g := g) _ (fun r hr => rfl), List.map_map]
        refine List.map_congr_left (fun j hj => ?_)
        have hj1 := List.mem_filter.mp (rkL_mem key _ _ hj)
        obtain ⟨m, m1, -⟩ := rkJ_y hj1.2
        show Int32.ofNat (rNm (g j)) = nmJ mkO j
        rw [hg j m m1]; unfold nmJ; rw [m1]
      rw [e2]
      refine ⟨_, _, _, rfl, rfl, Inv_sc h00 (by omega) hk (mEx_mono b2' (fun k hk => Or.inr hk)) (cEq_sI f' (show scr x0 (x0 + 20) by unfold scr; omega)) rfl (fun _ _ => rfl)⟩
    · rw [b2_f hr, if_pos rfl, if_neg]
      · exact ⟨_, _, _, rfl, rfl, h1⟩
      · intro q
        cases hx : rlO A v2 v3 with
        | none => rw [hx] at q; exact absurd q (by decide)
        | some y => rw [hx] at q; exact hr (by rw [hx]; exact congrArg some q)
  · have hz : fm_canBeAsked A v1 v2 v3 = some 0 := by
      unfold fm_canBeAsked fm_canBeAsked_59 fm_canBeAsked_60
      rw [m_within, bd_s, b2_f hv, if_pos rfl, ckz_0]
    rw [b2_f hv, if_pos rfl, hz, bd_s, if_pos rfl]
    exact ⟨_, _, _, rfl, rfl, h1⟩
end V
