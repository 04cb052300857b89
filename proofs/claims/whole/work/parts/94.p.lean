-- part 94: ranked
def insK (key : Nat → Int32) (x : Nat) (R : List Nat) : Nat → Nat
  | 0 => 0
  | k + 1 => if key x < key (R.getD k 0) then insK key x R k else k + 1
def insL (key : Nat → Int32) (R : List Nat) (x : Nat) : List Nat := R.take (insK key x R R.length) ++ x :: R.drop (insK key x R R.length)
theorem insK_le (key : Nat → Int32) (x : Nat) (R : List Nat) : ∀ k, insK key x R k ≤ k := by
  intro k
  induction k with
  | zero => exact Nat.le_refl _
  | succ k ih =>
    unfold insK
    split
    · omega
    · exact Nat.le_refl _
theorem insL_len (key : Nat → Int32) (R : List Nat) (x : Nat) : (insL key R x).length = R.length + 1 := by
  unfold insL
  have := insK_le key x R R.length
  rw [List.length_append, List.length_cons, List.length_take, List.length_drop]
  omega
theorem insK_map {key key' : Nat → Int32} {g : Nat → Nat} (x : Nat) (R : List Nat) (hx : key' (g x) = key x) (hR : ∀ r ∈ R, key' (g r) = key r) : ∀ k, k ≤ R.length → insK key' (g x) (R.map g) k = insK key x R k := by
  intro k
  induction k with
  | zero => intro _; rfl
  | succ k ih =>
    intro hk
    have e1 : (R.map g).getD k 0 = g (R.getD k 0) := by
      rw [List.getD_eq_getElem?_getD, List.getD_eq_getElem?_getD, List.getElem?_map, List.getElem?_eq_getElem (by omega)]; rfl
    have e2 : key' (g (R.getD k 0)) = key (R.getD k 0) := by
      rw [List.getD_eq_getElem?_getD, List.getElem?_eq_getElem (by omega)]
      exact hR _ (List.getElem_mem _)
    unfold insK
    rw [e1, e2, hx, ih (by omega)]
theorem insL_map {key key' : Nat → Int32} {g : Nat → Nat} (x : Nat) (R : List Nat) (hx : key' (g x) = key x) (hR : ∀ r ∈ R, key' (g r) = key r) : insL key' (R.map g) (g x) = (insL key R x).map g := by
  unfold insL
  rw [List.length_map, insK_map x R hx hR R.length (Nat.le_refl _), List.map_append, List.map_cons, List.map_take, List.map_drop]
theorem insL_mem {key : Nat → Int32} {R : List Nat} {x y : Nat} : y ∈ insL key R x ↔ y ∈ R ∨ y = x := by
  unfold insL
  rw [List.mem_append, List.mem_cons]
  have := List.take_append_drop (insK key x R R.length) R
  constructor
  · rintro (h | h | h)
    · exact Or.inl (List.mem_of_mem_take h)
    · exact Or.inr h
    · exact Or.inl (List.mem_of_mem_drop h)
  · rintro (h | h)
    · rw [← this, List.mem_append] at h
      rcases h with h | h
      · exact Or.inl h
      · exact Or.inr (Or.inr h)
    · exact Or.inr (Or.inl h)
theorem insL_at {key : Nat → Int32} {R : List Nat} {x : Nat} {f h : Nat → Int32} (h1 : ∀ i (q : i < R.length), i < insK key x R R.length → f i = h R[i]) (h2 : f (insK key x R R.length) = h x) (h3 : ∀ i (q : i < R.length), insK key x R R.length ≤ i → f (i + 1) = h R[i]) : ∀ i (q : i < (insL key R x).length), f i = h (insL key R x)[i] := by
  have hp := insK_le key x R R.length
  intro i q
  have ql := q
  rw [insL_len] at ql
  have key' : ∀ (pos : Nat), pos ≤ R.length → (∀ i (q : i < R.length), i < pos → f i = h R[i]) → f pos = h x → (∀ i (q : i < R.length), pos ≤ i → f (i + 1) = h R[i]) → ∀ (Q : List Nat) (hQ : Q = R.take pos ++ x :: R.drop pos) (hi : i < Q.length), f i = h Q[i] := by
    intro pos hp h1 h2 h3 Q hQ hi
    have htl : (R.take pos).length = pos := by rw [List.length_take]; omega
    subst hQ
    by_cases c : i < pos
    · rw [List.getElem_append_left (by omega), List.getElem_take]; exact h1 i (by omega) c
    · rw [List.getElem_append_right (by omega)]
      by_cases c2 : i = pos
      · subst c2
        have : i - (R.take i).length = 0 := by omega
        simp only [this, List.getElem_cons_zero]
        exact h2
      · have e : i - (R.take pos).length = (i - 1 - pos) + 1 := by omega
        simp only [e, List.getElem_cons_succ, List.getElem_drop]
        have := h3 (i - 1) (by omega) (by omega)
        rw [show i - 1 + 1 = i by omega] at this
        rw [this]
        congr 2
        omega
  exact key' _ hp h1 h2 h3 _ rfl q
section V
variable {S S' : cSt} {M A : mSt} {ra : Nat → Nat} {sl : Nat → Int32} {mkO : Nat → Option Nat} {x0 n k : Nat} {l : List Nat} {L Wt : Nat → List Nat} {Bt : Nat}
theorem getD_g {R : List Nat} {k : Nat} (h : k < R.length) : R.getD k 0 = R[k] := by rw [List.getD_eq_getElem?_getD, List.getElem?_eq_getElem h]; rfl
theorem k_rankIn {va p x : Nat} {key : Nat → Int32} {R : List Nat} (h12 : kK S x0 = 12) (h7 : kR S x0 7 = some (x0 + 20)) (h20 : kK S (x0 + 20) = 20) (h48 : kL S (x0 + 20) = 48) (h11 : kK S va = 11) (hR : R.length < 48) (hx : ∀ f, fk_10_latestOf (sI S (x0 + 20) f) va (Int32.ofNat x * 8 + Int32.ofNat p) = some (key x)) (hl : ∀ f, ∀ r ∈ R, fk_10_latestOf (sI S (x0 + 20) f) va (Int32.ofNat r * 8 + Int32.ofNat p) = some (key r)) {f : Nat → Int32} (hf : ∀ i (h : i < R.length), f i = Int32.ofNat R[i]) : ∃ f', fk_11_rankIn (sI S (x0 + 20) f) x0 va (Int32.ofNat R.length) (Int32.ofNat x) (Int32.ofNat p) = some (sI S (x0 + 20) f') ∧ ∀ i (h : i < (insL key R x).length), f' i = Int32.ofNat (insL key R x)[i] := by
  have g12 : ∀ f, kK (sI S (x0 + 20) f) x0 = 12 := fun f => h12
  have g7 : ∀ f, kR (sI S (x0 + 20) f) x0 7 = some (x0 + 20) := fun f => h7
  have g20 : ∀ f, kK (sI S (x0 + 20) f) (x0 + 20) = 20 := fun f => h20
  have g48 : ∀ f, kL (sI S (x0 + 20) f) (x0 + 20) = 48 := fun f => h48
  have g11 : ∀ f, kK (sI S (x0 + 20) f) va = 11 := fun f => h11
  have key' : ∀ (k fu : Nat) (f : Nat → Int32), k ≤ R.length → k < fu → insK key x R k = insK key x R R.length → (∀ i (h : i < R.length), i < k → f i = Int32.ofNat R[i]) → (∀ i (h : i < R.length), k ≤ i → f (i + 1) = Int32.ofNat R[i]) → ∃ f', fk_11_rankIn_16 fu (sI S (x0 + 20) f) x0 va (Int32.ofNat x) (Int32.ofNat p) (key x) (Int32.ofNat k) = some (sI S (x0 + 20) f') ∧ ∀ i (h : i < (insL key R x).length), f' i = Int32.ofNat (insL key R x)[i] := by
    intro k
    have fin : ∀ (k : Nat) (f : Nat → Int32), k ≤ R.length → k = insK key x R R.length → (∀ i (h : i < R.length), i < k → f i = Int32.ofNat R[i]) → (∀ i (h : i < R.length), k ≤ i → f (i + 1) = Int32.ofNat R[i]) → ∃ f', fk_11_rankIn_67 (sI S (x0 + 20) f) x0 (Int32.ofNat x) (Int32.ofNat k) = some (sI S (x0 + 20) f') ∧ ∀ i (h : i < (insL key R x).length), f' i = Int32.ofNat (insL key R x)[i] := fun k f hk e h1 h2 => by
      refine ⟨upd f k (Int32.ofNat x), ?_, ?_⟩
      · unfold fk_11_rankIn_67
        rw [ckk_y (g12 f), g7, bd_s, ckk_y (g20 f), g48, ck_n (by omega) (by omega), lt_d, jI_cl (by omega), wI_sI]
      · refine insL_at (f := upd f k (Int32.ofNat x)) (h := fun r => Int32.ofNat r) (fun i q c => ?_) ?_ (fun i q c => ?_)
        · rw [upd_o _ _ (by omega)]; exact h1 i q (by omega)
        · rw [← e, upd_s]
        · rw [upd_o _ _ (by omega)]; exact h2 i q (by omega)
    induction k with
    | zero =>
      intro fu f hk hfu e h1 h2
      obtain ⟨fu, rfl⟩ : ∃ q, fu = q + 1 := ⟨fu - 1, by omega⟩
      rw [fk_11_rankIn_16, if_pos (show Int32.ofNat 0 ≤ 0 by decide)]
      exact fin 0 f hk e h1 h2
    | succ k ih =>
      intro fu f hk hfu e h1 h2
      obtain ⟨fu, rfl⟩ : ∃ q, fu = q + 1 := ⟨fu - 1, by omega⟩
      have hkl : k < R.length := by omega
      rw [fk_11_rankIn_16, if_neg (jI_p (by omega) (by omega)), ckk_y (g12 f), g7, bd_s, ckk_y (g20 f), g48, show (1 : Int32) = Int32.ofNat 1 from rfl, jI_sub (by omega), show k + 1 - 1 = k by omega, ck_n (by omega) (by omega), lt_d, jI_cl (by omega), kI_sI, h1 k hkl (by omega), ckk_y (g11 f), hl f _ (List.getElem_mem hkl), bd_s]
      have hrec : insK key x R (k + 1) = if key x < key R[k] then insK key x R k else k + 1 := by
        show (if key x < key (R.getD k 0) then insK key x R k else k + 1) = _
        rw [getD_g hkl]
      by_cases c : key x < key R[k]
      · rw [if_pos c] at hrec
        rw [if_pos c, ckk_y (g12 f), bd_s, ckk_y (g20 f), g48, ck_n (by omega) (by omega), lt_d, jI_cl (by omega), wI_sI, lt_d, ← Int32.sub_eq_add_neg, jI_sub (by omega), show k + 1 - 1 = k by omega]
        refine ih fu _ (by omega) (by omega) (by rw [← hrec]; exact e) (fun i q c => ?_) (fun i q c => ?_)
        · rw [upd_o _ _ (by omega)]; exact h1 i q (by omega)
        · by_cases e : i = k
          · subst e; rw [upd_s]
          · rw [upd_o _ _ (by omega)]; exact h2 i q (by omega)
      · rw [if_neg c] at hrec
        rw [if_neg c]
        exact fin (k + 1) f hk (by rw [← hrec]; exact e) h1 h2
  unfold fk_11_rankIn
  rw [ckk_y (g11 f), hx f, bd_s]
  exact key' R.length mFU f (Nat.le_refl _) (Nat.lt_trans hR (by decide)) rfl (fun i h _ => hf i h) (fun i h c => absurd c (by omega))
/-- the reference's ranks -/
def inN (B : mSt) (key : Nat → Int32) (R : List Nat) : Prop := B.1 77 = Int32.ofNat R.length ∧ ∀ i (h : i < R.length), B.2 78 i = Int32.ofNat (rNm R[i]) ∧ B.2 79 i = key R[i]
def wN : Nat → Prop := fun k => k = 77 ∨ k = 78 ∨ k = 79
theorem m_rankIn {key : Nat → Int32} {R : List Nat} {x i5 : Nat} (hR : R.length < 48) (hi5 : i5 < 48) (g36 : mSt → Int32 → Int32 → Int32 → Int32 → Int32 → Option (Int32 × mSt)) (v1 v2 v3 v4 : Int32) {B : mSt} (hB : inN B key R) (h55 : B.2 55 i5 = Int32.ofNat (rNm x)) : ∃ C, fm_ranked_99 g36 mFU B v1 v2 v3 v4 (Int32.ofNat i5) (key x) (B.1 77) = g36 C v1 v2 v3 v4 (Int32.ofNat (i5 + 1)) ∧ mEx wN B C ∧ inN C key (insL key R x) := by
  have key' : ∀ (k fu : Nat) (C : mSt), k ≤ R.length → k < fu → insK key x R k = insK key x R R.length → mEx wN B C → C.1 77 = Int32.ofNat R.length → (∀ i (h : i < R.length), i < k → C.2 78 i = Int32.ofNat (rNm R[i]) ∧ C.2 79 i = key R[i]) → (∀ i (h : i < R.length), k ≤ i → C.2 78 (i + 1) = Int32.ofNat (rNm R[i]) ∧ C.2 79 (i + 1) = key R[i]) → ∃ D, fm_ranked_99 g36 fu C v1 v2 v3 v4 (Int32.ofNat i5) (key x) (Int32.ofNat k) = g36 D v1 v2 v3 v4 (Int32.ofNat (i5 + 1)) ∧ mEx wN B D ∧ inN D key (insL key R x) := by
    intro k
    have fin : ∀ (k : Nat) (C : mSt), k ≤ R.length → k = insK key x R R.length → mEx wN B C → C.1 77 = Int32.ofNat R.length → (∀ i (h : i < R.length), i < k → C.2 78 i = Int32.ofNat (rNm R[i]) ∧ C.2 79 i = key R[i]) → (∀ i (h : i < R.length), k ≤ i → C.2 78 (i + 1) = Int32.ofNat (rNm R[i]) ∧ C.2 79 (i + 1) = key R[i]) → ∃ D, fm_ranked_156 g36 C v1 v2 v3 v4 (Int32.ofNat i5) (key x) (Int32.ofNat k) = g36 D v1 v2 v3 v4 (Int32.ofNat (i5 + 1)) ∧ mEx wN B D ∧ inN D key (insL key R x) := fun k C hk e eC h77 h1 h2 => by
      have c55 : rd C 55 (Int32.ofNat i5) = Int32.ofNat (rNm x) := by rw [rd_n _ _ (by omega), (eC 55 (by unfold wN; decide)).2, h55]
      unfold fm_ranked_156 fm_ranked_189
      rw [ck_n hi5 (by omega), ck_n (by omega) (by omega), lt_d, ck_n (by omega) (by omega), lt_d, lt_d, lt_d, c55, show (1 : Int32) = Int32.ofNat 1 from rfl, jI_add]
      generalize hD : pu (wr (wr C 78 (Int32.ofNat k) (Int32.ofNat (rNm x))) 79 (Int32.ofNat k) (key x)) 77 ((wr (wr C 78 (Int32.ofNat k) (Int32.ofNat (rNm x))) 79 (Int32.ofNat k) (key x)).1 77 + Int32.ofNat 1) = D
      have d78 : D.2 78 = upd (C.2 78) k (Int32.ofNat (rNm x)) := by rw [← hD, pu_2, wr_o _ _ _ (by decide), wr_s _ _ (by omega)]
      have d79 : D.2 79 = upd (C.2 79) k (key x) := by rw [← hD, pu_2, wr_s _ _ (by omega), wr_o _ _ _ (by decide)]
      have d77 : D.1 77 = Int32.ofNat (insL key R x).length := by rw [← hD, pu_s, wr_1, wr_1, h77, jI_add, insL_len]
      refine ⟨D, rfl, ?_, d77, fun i hi => ⟨?_, ?_⟩⟩
      · rw [← hD]
        exact mEx_trans (mEx_trans (mEx_trans eC (mEx_wr (by unfold wN; decide) _ _)) (mEx_wr (by unfold wN; decide) _ _)) (mEx_pu (by unfold wN; decide) _)
      · refine insL_at (f := D.2 78) (h := fun r => Int32.ofNat (rNm r)) (fun i q c => ?_) ?_ (fun i q c => ?_) i hi
        · rw [d78, upd_o _ _ (by omega)]; exact (h1 i q (by omega)).1
        · rw [d78, ← e, upd_s]
        · rw [d78, upd_o _ _ (by omega)]; exact (h2 i q (by omega)).1
      · refine insL_at (f := D.2 79) (h := key) (fun i q c => ?_) ?_ (fun i q c => ?_) i hi
        · rw [d79, upd_o _ _ (by omega)]; exact (h1 i q (by omega)).2
        · rw [d79, ← e, upd_s]
        · rw [d79, upd_o _ _ (by omega)]; exact (h2 i q (by omega)).2
    induction k with
    | zero =>
      intro fu C hk hfu e eC h77 h1 h2
      obtain ⟨fu, rfl⟩ : ∃ q, fu = q + 1 := ⟨fu - 1, by omega⟩
      rw [fm_ranked_99, if_pos (show Int32.ofNat 0 ≤ 0 by decide)]
      exact fin 0 C hk e eC h77 h1 h2
    | succ k ih =>
      intro fu C hk hfu e eC h77 h1 h2
      obtain ⟨fu, rfl⟩ : ∃ q, fu = q + 1 := ⟨fu - 1, by omega⟩
      have hkl : k < R.length := by omega
      obtain ⟨y1, y2⟩ := h1 k hkl (by omega)
      have hrec : insK key x R (k + 1) = if key x < key R[k] then insK key x R k else k + 1 := by
        show (if key x < key (R.getD k 0) then insK key x R k else k + 1) = _
        rw [getD_g hkl]
      rw [fm_ranked_99, if_neg (jI_p (by omega) (by omega)), show (1 : Int32) = Int32.ofNat 1 from rfl, jI_sub (by omega), show k + 1 - 1 = k by omega, ck_n (by omega) (by omega), rd_n _ _ (by omega), y2]
      by_cases c : key x < key R[k]
      · rw [if_pos c] at hrec
        rw [if_neg (Int32.not_le.mpr c), ck_n (by omega) (by omega), ck_n (by omega) (by omega), rd_n _ _ (by omega), y1, lt_d, ck_n (by omega) (by omega), ck_n (by omega) (by omega), rd_n _ _ (by omega), wr_o _ _ _ (by decide), y2, lt_d, lt_d, ← Int32.sub_eq_add_neg, jI_sub (by omega), show k + 1 - 1 = k by omega]
        generalize hD : wr (wr C 78 (Int32.ofNat (k + 1)) (Int32.ofNat (rNm R[k]))) 79 (Int32.ofNat (k + 1)) (key R[k]) = D
        have d78 : D.2 78 = upd (C.2 78) (k + 1) (Int32.ofNat (rNm R[k])) := by rw [← hD, wr_o _ _ _ (by decide), wr_s _ _ (by omega)]
        have d79 : D.2 79 = upd (C.2 79) (k + 1) (key R[k]) := by rw [← hD, wr_s _ _ (by omega), wr_o _ _ _ (by decide)]
        refine ih fu D (by omega) (by omega) (by rw [← hrec]; exact e) ?_ ?_ (fun i q c => ?_) (fun i q c => ?_)
        · rw [← hD]; exact mEx_trans (mEx_trans eC (mEx_wr (by unfold wN; decide) _ _)) (mEx_wr (by unfold wN; decide) _ _)
        · rw [← hD, wr_1, wr_1]; exact h77
        · rw [d78, d79, upd_o _ _ (by omega), upd_o _ _ (by omega)]; exact h1 i q (by omega)
        · rw [d78, d79]
          by_cases e : i = k
          · subst e; rw [upd_s, upd_s]; exact ⟨rfl, rfl⟩
          · rw [upd_o _ _ (by omega), upd_o _ _ (by omega)]; exact h2 i q (by omega)
      · rw [if_neg c] at hrec
        rw [if_pos (Int32.not_lt.mp c)]
        exact fin (k + 1) C hk (by rw [← hrec]; exact e) eC h77 h1 h2
  rw [hB.1]
  exact key' R.length mFU B (Nat.le_refl _) (Nat.lt_trans hR (by decide)) rfl (mEx_refl _ _) hB.1 (fun i h _ => hB.2 i h) (fun i h c => absurd c (by omega))
end V
