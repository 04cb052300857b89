-- part 37: the reference's parents
/-- the name of a slot's object, -1 without -/
def nmI (mkO : Nat → Option Nat) (o : Option Nat) : Int32 := match o with | none => -1 | some j => match mkO j with | none => -1 | some m => Int32.ofNat (rNm m)
/-- slots and objects, among the rows l: each parent is an object of l -/
def slK (M : mSt) (mkO : Nat → Option Nat) (l : List Nat) : Prop := (∀ j m, mkO j = some m → j < 48 ∧ m < 1000) ∧ (∀ j j' m, mkO j = some m → mkO j' = some m → j = j') ∧ ∀ m ∈ l, M.2 9 m = 0 → ∃ j, mkO j = some m
/-- the parents by places are those by slots -/
def hasP (mkO : Nat → Option Nat) (A : mSt) (L : List Nat) (pr : Nat → Option Nat) : Prop := ∀ k (h : k < L.length) j, mkO j = some L[k] → A.2 56 k = nmI mkO (pr j)
section R
variable {M A : mSt} {n : Nat} {l : List Nat} {mkO : Nat → Option Nat} {sl : Nat → Int32}
theorem slF_mk (hK : ∀ j j' m, mkO j = some m → mkO j' = some m → j = j') (hb : ∀ j m, mkO j = some m → j < 48 ∧ m < 1000) {j m : Nat} (h : mkO j = some m) : slF mkO (Int32.ofNat (rNm m)) = some j := by
  cases hs : slF mkO (Int32.ofNat (rNm m)) with
  | none => exact absurd rfl (slF_none hs (hb j m h).1 h)
  | some j' =>
    obtain ⟨h1, r, h2, h3⟩ := slF_some hs
    have := rNm_inj (hb j m h).2 (hb j' r h2).2 h3
    subst this
    rw [hK j' j m h2 h]
theorem rNm_ne {r : Nat} (hr : r < 1000) : Int32.ofNat (rNm r) ≠ -1 := jI_ne (by have := rNm_lt hr; omega)
theorem slF_neg (hb : ∀ j m, mkO j = some m → j < 48 ∧ m < 1000) : slF mkO (-1) = none := by
  cases h : slF mkO (-1) with
  | none => rfl
  | some j =>
    obtain ⟨h1, r, h2, h3⟩ := slF_some h
    exact absurd h3.symm (rNm_ne (hb j r h2).2)
/-- whether a ring would be closed, as the reference finds it -/
theorem m_isRing {B : mSt} (hK : slK M mkO l) {L : List Nat} (hO : inO B L) (hL : L.length ≤ 48) (hn : L.Nodup) (hm : ∀ r, r ∈ L ↔ r ∈ l ∧ M.2 9 r = 0) (hb : ∀ r ∈ l, r < 1000) {pr : Nat → Option Nat} (hP : hasP mkO B L pr) (ha : acy pr) (hin : ∀ j q, pr j = some q → ∃ m, mkO q = some m ∧ m ∈ L) {top : Nat} {mt : Nat} (htop : mkO top = some mt) : ∀ (k fu : Nat) (o : Option Nat) (vis : List Nat) (d : Nat → Nat), (∀ a b, pr a = some b → d b < d a) → k + vis.length = 48 → k < fu → vis.Nodup → (∀ a, o = some a → (a < 48 ∧ ∃ m, mkO a = some m ∧ m ∈ L) ∧ ∀ v ∈ vis, v < 48 ∧ d a < d v) → fm_isRing_2 B fu (Int32.ofNat (rNm mt)) (nmI mkO o) = some (b2 (undr pr top k o = true)) := by
  have mt4 : mt < 1000 := (hK.1 top mt htop).2
  intro k
  induction k with
  | zero =>
    intro fu o vis d hd hk hf hv ho
    obtain ⟨fu, rfl⟩ : ∃ q, fu = q + 1 := ⟨fu - 1, by omega⟩
    cases o with
    | none =>
      rw [fm_isRing_2]
      show (if (-1 : Int32) = -1 then fm_isRing_26 B _ (-1) else _) = _
      rw [if_pos rfl]
      unfold fm_isRing_26 fm_isRing_36
      rw [if_neg (fun q => rNm_ne mt4 q.symm), b2_f (by unfold undr; simp)]; rfl
    | some a =>
      obtain ⟨⟨h1, -⟩, h2⟩ := ho a rfl
      have hna : a ∉ vis := fun q => absurd (h2 a q).2 (Nat.lt_irrefl _)
      have : (a :: vis).length ≤ 48 := nd48 48 _ (List.nodup_cons.mpr ⟨hna, hv⟩) (fun x hx => by
        rcases List.mem_cons.mp hx with rfl | hx
        · exact h1
        · exact (h2 x hx).1)
      simp at this
      omega
  | succ k ih =>
    intro fu o vis d hd hk hf hv ho
    obtain ⟨fu, rfl⟩ : ∃ q, fu = q + 1 := ⟨fu - 1, by omega⟩
    cases o with
    | none =>
      rw [fm_isRing_2]
      show (if (-1 : Int32) = -1 then fm_isRing_26 B _ (-1) else _) = _
      rw [if_pos rfl]
      unfold fm_isRing_26 fm_isRing_36
      rw [if_neg (fun q => rNm_ne mt4 q.symm), b2_f (by unfold undr; simp)]; rfl
    | some a =>
      obtain ⟨⟨h1, m, hma, hmL⟩, h2⟩ := ho a rfl
      have m4 : m < 1000 := (hK.1 a m hma).2
      have en : nmI mkO (some a) = Int32.ofNat (rNm m) := by show (match mkO a with | none => (-1 : Int32) | some m => Int32.ofNat (rNm m)) = _; rw [hma]
      have hu : undr pr top (k + 1) (some a) = if a = top then true else undr pr top k (pr a) := rfl
      rw [fm_isRing_2, en, if_neg (rNm_ne m4), hu]
      by_cases e : m = mt
      · subst e
        have ea : a = top := hK.2.1 a top m hma htop
        rw [if_pos rfl, if_pos ea]
        unfold fm_isRing_26 fm_isRing_36
        rw [if_pos rfl, b2_t rfl]; rfl
      · have ea : a ≠ top := fun q => by subst q; rw [hma] at htop; cases htop; exact e rfl
        rw [if_neg (fun q => e (rNm_inj m4 mt4 q)), if_neg ea]
        obtain ⟨kk, hkk, ekk⟩ := List.mem_iff_getElem.mp hmL
        have hpl := m_placeOf hO hL (fun r hr => hb r ((hm r).mp hr).1) hkk hn
        rw [ekk] at hpl
        rw [hpl, bd_s, ck_n (by omega) (by omega), lt_d, rd_n _ _ (by omega), hP kk hkk a (by rw [ekk]; exact hma)]
        refine ih fu (pr a) (a :: vis) d hd (by simp; omega) (by omega) (List.nodup_cons.mpr ⟨fun q => absurd (h2 a q).2 (Nat.lt_irrefl _), hv⟩) (fun b hbq => ⟨⟨(ha.2 a b hbq).2, hin a b hbq⟩, fun v hv' => ?_⟩)
        rcases List.mem_cons.mp hv' with rfl | hv'
        · exact ⟨h1, hd _ _ hbq⟩
        · exact ⟨(h2 v hv').1, Nat.lt_trans (hd _ _ hbq) (h2 v hv').2⟩
def inV2 (A : mSt) (L : List Nat) : Prop := A.1 57 = Int32.ofNat L.length ∧ ∀ i (h : i < L.length), A.2 58 i = Int32.ofNat L[i]
theorem m_movGo (ht : tOk M) {L : List Nat} {r : Nat} (hr : r < 1000) (hL : L.length < 1000) (hb : ∀ i (h : i < L.length), L[i] < 1000) (hs : sdl (rK M) L) (g : mSt → Int32 → Int32 → Int32 → Option mSt) (v1 v2 v3 : Int32) : ∀ (k fu : Nat) (A : mSt), mEx sc M A → A.1 57 = Int32.ofNat L.length → k ≤ L.length → k < fu → (∀ j (h : j < L.length), j < k → A.2 58 j = Int32.ofNat L[j]) → (∀ j (h : j < L.length), k ≤ j → A.2 58 (j + 1) = Int32.ofNat L[j]) → (∀ j (h : j < L.length), k ≤ j → rK M r < rK M L[j]) → ∃ B, fm_findParents_86 g fu A v1 v2 v3 (Int32.ofNat r) (Int32.ofNat k) = fm_findParents_150 g B v1 v2 v3 ∧ mEx (fun k => k = 57 ∨ k = 58) A B ∧ inV2 B (ins (rK M) r L) := by
  have fin : ∀ (k : Nat) (A : mSt), A.1 57 = Int32.ofNat L.length → k ≤ L.length → (∀ j (h : j < L.length), j < k → A.2 58 j = Int32.ofNat L[j]) → (∀ j (h : j < L.length), k ≤ j → A.2 58 (j + 1) = Int32.ofNat L[j]) → (∀ j (h : j < L.length), k ≤ j → rK M r < rK M L[j]) → (∀ (h : k - 1 < L.length), 0 < k → rK M (L[k - 1]) ≤ rK M r) → ∃ B, fm_findParents_131 g A v1 v2 v3 (Int32.ofNat r) (Int32.ofNat k) = fm_findParents_150 g B v1 v2 v3 ∧ mEx (fun k => k = 57 ∨ k = 58) A B ∧ inV2 B (ins (rK M) r L) := by
    intro k A h1 hk h2 h3 h4 h5
    have hone : Int32.ofNat L.length + 1 = Int32.ofNat (L.length + 1) := jI_add L.length 1
    have e1 : (wr A 58 (Int32.ofNat k) (Int32.ofNat r)).1 57 = Int32.ofNat L.length := h1
    unfold fm_findParents_131
    rw [ck_n (by omega) (by omega), lt_d, lt_d, e1, hone]
    refine ⟨_, rfl, mEx_trans (mEx_wr (by simp) _ _) (mEx_pu (by simp) _), ?_⟩
    rw [ins_at k hs hk h4 h5]
    refine ⟨?_, fun i hi => ?_⟩
    · rw [pu_s]; congr 1; simp; omega
    · obtain ⟨c1, c2, c3⟩ := cat_get (r := r) hk hi
      rw [pu_2, wr_s _ _ (by omega)]
      rcases Nat.lt_trichotomy i k with c | c | c
      · obtain ⟨q1, q2⟩ := c1 c
        rw [q2, upd_o _ _ (by omega)]
        exact h2 i q1 c
      · rw [c2 c, c, upd_s]
      · obtain ⟨q1, q2⟩ := c3 c
        rw [q2, upd_o _ _ (by omega)]
        have := h3 (i - 1) q1 (by omega)
        rwa [show i - 1 + 1 = i by omega] at this
  intro k
  induction k with
  | zero =>
    intro fu A e h1 hk hf h2 h3 h4
    obtain ⟨fu, rfl⟩ : ∃ q, fu = q + 1 := ⟨fu - 1, by omega⟩
    rw [fm_findParents_86, if_pos (by decide)]
    exact fin 0 A h1 hk h2 h3 h4 (fun _ h => absurd h (by omega))
  | succ k ih =>
    intro fu A e h1 hk hf h2 h3 h4
    obtain ⟨fu, rfl⟩ : ∃ q, fu = q + 1 := ⟨fu - 1, by omega⟩
    have hk' : k < L.length := by omega
    have hkk : Int32.ofNat (k + 1) - (1 : Int32) = Int32.ofNat k := by show Int32.ofNat (k + 1) - Int32.ofNat 1 = _; rw [jI_sub (by omega)]; rfl
    have hkm : Int32.ofNat (k + 1) + (-1 : Int32) = Int32.ofNat k := by rw [← hkk, Int32.sub_eq_add_neg]
    have hfr := h2 k hk' (by omega)
    rw [fm_findParents_86, if_neg (jI_p (by omega) (by omega)), hkk, hkm, ck_n (by omega) (by omega), rd_n _ _ (by omega), hfr, m_isBeforeL e ht hr (hb k hk'), bd_s]
    by_cases hlt : rK M r < rK M L[k]
    · rw [b2_t hlt, if_neg n10, ck_n (by omega) (by omega), ck_n (by omega) (by omega), lt_d, lt_d]
      have e1 : mEx (fun k => k = 57 ∨ k = 58) A (wr A 58 (Int32.ofNat (k + 1)) (Int32.ofNat L[k])) := mEx_wr (by simp) _ _
      obtain ⟨B, q1, q2, q3⟩ := ih fu (wr A 58 (Int32.ofNat (k + 1)) (Int32.ofNat L[k])) (mEx_trans e (mEx_mono e1 (fun j hj => by unfold sc; omega))) h1 (by omega) (by omega) (fun j hj hjk => by
        rw [wr_s _ _ (by omega), upd_o _ _ (by omega)]
        exact h2 j hj (by omega)) (fun j hj hjk => by
        rw [wr_s _ _ (by omega)]
        by_cases ej : j = k
        · subst ej; rw [upd_s]
        · rw [upd_o _ _ (by omega)]; exact h3 j hj (by omega)) (fun j hj hjk => by
        by_cases ej : j = k
        · subst ej; exact hlt
        · exact h4 j hj (by omega))
      exact ⟨B, q1, mEx_trans e1 q2, q3⟩
    · rw [b2_f hlt, if_pos rfl]
      exact fin (k + 1) A h1 hk h2 h3 h4 (fun h _ => Nat.not_lt.mp hlt)
def inH (A : mSt) (L : List Nat) : Prop := A.1 59 = Int32.ofNat L.length ∧ ∀ i (h : i < L.length), A.2 60 i = Int32.ofNat L[i]
theorem m_holGo (ht : tOk M) {L : List Nat} {r : Nat} (hr : r < 1000) (hL : L.length < 1000) (hb : ∀ i (h : i < L.length), L[i] < 1000) (hs : sdl (rK M) L) (g : mSt → Int32 → Int32 → Int32 → Option (Int32 × mSt)) (v1 v2 v3 : Int32) : ∀ (k fu : Nat) (A : mSt), mEx sc M A → A.1 59 = Int32.ofNat L.length → k ≤ L.length → k < fu → (∀ j (h : j < L.length), j < k → A.2 60 j = Int32.ofNat L[j]) → (∀ j (h : j < L.length), k ≤ j → A.2 60 (j + 1) = Int32.ofNat L[j]) → (∀ j (h : j < L.length), k ≤ j → rK M r < rK M L[j]) → ∃ B, fm_holder_69 g fu A v1 v2 v3 (Int32.ofNat r) (Int32.ofNat k) = fm_holder_133 g B v1 v2 v3 ∧ mEx (fun k => k = 59 ∨ k = 60) A B ∧ inH B (ins (rK M) r L) := by
  have fin : ∀ (k : Nat) (A : mSt), A.1 59 = Int32.ofNat L.length → k ≤ L.length → (∀ j (h : j < L.length), j < k → A.2 60 j = Int32.ofNat L[j]) → (∀ j (h : j < L.length), k ≤ j → A.2 60 (j + 1) = Int32.ofNat L[j]) → (∀ j (h : j < L.length), k ≤ j → rK M r < rK M L[j]) → (∀ (h : k - 1 < L.length), 0 < k → rK M (L[k - 1]) ≤ rK M r) → ∃ B, fm_holder_114 g A v1 v2 v3 (Int32.ofNat r) (Int32.ofNat k) = fm_holder_133 g B v1 v2 v3 ∧ mEx (fun k => k = 59 ∨ k = 60) A B ∧ inH B (ins (rK M) r L) := by
    intro k A h1 hk h2 h3 h4 h5
    have hone : Int32.ofNat L.length + 1 = Int32.ofNat (L.length + 1) := jI_add L.length 1
    have e1 : (wr A 60 (Int32.ofNat k) (Int32.ofNat r)).1 59 = Int32.ofNat L.length := h1
    unfold fm_holder_114
    rw [ck_n (by omega) (by omega), lt_d, lt_d, e1, hone]
    refine ⟨_, rfl, mEx_trans (mEx_wr (by simp) _ _) (mEx_pu (by simp) _), ?_⟩
    rw [ins_at k hs hk h4 h5]
    refine ⟨?_, fun i hi => ?_⟩
    · rw [pu_s]; congr 1; simp; omega
    · obtain ⟨c1, c2, c3⟩ := cat_get (r := r) hk hi
      rw [pu_2, wr_s _ _ (by omega)]
      rcases Nat.lt_trichotomy i k with c | c | c
      · obtain ⟨q1, q2⟩ := c1 c
        rw [q2, upd_o _ _ (by omega)]
        exact h2 i q1 c
      · rw [c2 c, c, upd_s]
      · obtain ⟨q1, q2⟩ := c3 c
        rw [q2, upd_o _ _ (by omega)]
        have := h3 (i - 1) q1 (by omega)
        rwa [show i - 1 + 1 = i by omega] at this
  intro k
  induction k with
  | zero =>
    intro fu A e h1 hk hf h2 h3 h4
    obtain ⟨fu, rfl⟩ : ∃ q, fu = q + 1 := ⟨fu - 1, by omega⟩
    rw [fm_holder_69, if_pos (by decide)]
    exact fin 0 A h1 hk h2 h3 h4 (fun _ h => absurd h (by omega))
  | succ k ih =>
    intro fu A e h1 hk hf h2 h3 h4
    obtain ⟨fu, rfl⟩ : ∃ q, fu = q + 1 := ⟨fu - 1, by omega⟩
    have hk' : k < L.length := by omega
    have hkk : Int32.ofNat (k + 1) - (1 : Int32) = Int32.ofNat k := by show Int32.ofNat (k + 1) - Int32.ofNat 1 = _; rw [jI_sub (by omega)]; rfl
    have hkm : Int32.ofNat (k + 1) + (-1 : Int32) = Int32.ofNat k := by rw [← hkk, Int32.sub_eq_add_neg]
    have hfr := h2 k hk' (by omega)
    rw [fm_holder_69, if_neg (jI_p (by omega) (by omega)), hkk, hkm, ck_n (by omega) (by omega), rd_n _ _ (by omega), hfr, m_isBeforeL e ht hr (hb k hk'), bd_s]
    by_cases hlt : rK M r < rK M L[k]
    · rw [b2_t hlt, if_neg n10, ck_n (by omega) (by omega), ck_n (by omega) (by omega), lt_d, lt_d]
      have e1 : mEx (fun k => k = 59 ∨ k = 60) A (wr A 60 (Int32.ofNat (k + 1)) (Int32.ofNat L[k])) := mEx_wr (by simp) _ _
      obtain ⟨B, q1, q2, q3⟩ := ih fu (wr A 60 (Int32.ofNat (k + 1)) (Int32.ofNat L[k])) (mEx_trans e (mEx_mono e1 (fun j hj => by unfold sc; omega))) h1 (by omega) (by omega) (fun j hj hjk => by
        rw [wr_s _ _ (by omega), upd_o _ _ (by omega)]
        exact h2 j hj (by omega)) (fun j hj hjk => by
        rw [wr_s _ _ (by omega)]
        by_cases ej : j = k
        · subst ej; rw [upd_s]
        · rw [upd_o _ _ (by omega)]; exact h3 j hj (by omega)) (fun j hj hjk => by
        by_cases ej : j = k
        · subst ej; exact hlt
        · exact h4 j hj (by omega))
      exact ⟨B, q1, mEx_trans e1 q2, q3⟩
    · rw [b2_f hlt, if_pos rfl]
      exact fin (k + 1) A h1 hk h2 h3 h4 (fun h _ => Nat.not_lt.mp hlt)
/-- the moves: of an object, to an object or none -/
def mvOk (M : mSt) (mkO : Nat → Option Nat) (sl : Nat → Int32) (l : List Nat) (r : Nat) : Prop := ∃ s m, mkO s = some m ∧ m ∈ l ∧ M.2 9 m = 0 ∧ M.2 10 r = Int32.ofNat (rNm m) ∧ sl r = Int32.ofNat s ∧ s < 48 ∧ (M.2 12 r = -1 ∨ ∃ j' m', mkO j' = some m' ∧ m' ∈ l ∧ M.2 9 m' = 0 ∧ M.2 12 r = Int32.ofNat (rNm m'))
def mvL (M : mSt) (l : List Nat) : List Nat := srt (rK M) (l.filter (fun r => decide (M.2 9 r = 11) && gd M l r))
def wPa : Nat → Prop := fun k => k = 47 ∨ k = 48 ∨ k = 54 ∨ k = 55 ∨ k = 56 ∨ k = 57 ∨ k = 58
theorem par_in (hK : slK M mkO l) {L : List Nat} (hmv : ∀ r ∈ L, mvOk M mkO sl l r) : ∀ j q, paL M mkO sl L j = some q → ∃ m, mkO q = some m ∧ m ∈ obL M l := by
  unfold paL
  have key : ∀ (L : List Nat) (pr : Nat → Option Nat), (∀ j q, pr j = some q → ∃ m, mkO q = some m ∧ m ∈ obL M l) → (∀ r ∈ L, mvOk M mkO sl l r) → ∀ j q, L.foldl (pSt M mkO sl) pr j = some q → ∃ m, mkO q = some m ∧ m ∈ obL M l := by
    intro L
    induction L with
    | nil => intro pr h _; exact h
    | cons r L ih =>
      intro pr h hs
      refine ih _ (fun j q hq => ?_) (fun q hq => hs q (List.mem_cons_of_mem _ hq))
      obtain ⟨s, m, hm1, hm2, hm3, hm4, hm5, hm6, hm7⟩ := hs r List.mem_cons_self
      unfold pSt at hq
      rcases hm7 with hv | ⟨j', m', k1, k2, k3, k4⟩
      · rw [hv, slF_neg hK.1] at hq
        have hq' : upo pr (sl r).toNatClampNeg none j = some q := hq
        by_cases ej : j = (sl r).toNatClampNeg
        · rw [ej, upo_s] at hq'; cases hq'
        · rw [upo_o _ _ ej] at hq'; exact h j q hq'
      · rw [k4, slF_mk hK.2.1 hK.1 k1] at hq
        have hq' : (if undr pr (sl r).toNatClampNeg 48 (some j') then pr else upo pr (sl r).toNatClampNeg (some j')) j = some q := hq
        split at hq'
        · exact h j q hq'
        · by_cases ej : j = (sl r).toNatClampNeg
          · rw [ej, upo_s] at hq'; cases hq'; exact ⟨m', k1, obL_mem.mpr ⟨k2, k3⟩⟩
          · rw [upo_o _ _ ej] at hq'; exact h j q hq'
  exact key L _ (fun j q h => by cases h) hmv
theorem m_par158 {B : mSt} (e : mEx sc M B) (hK : slK M mkO l) (h48 : (obL M l).length ≤ 48) (hnd : l.Nodup) (hb : ∀ r ∈ l, r < 1000) (hO : inO B (obL M l)) {L : List Nat} (hV : inV2 B L) (hL : L.length ≤ 1000) (hmv : ∀ r ∈ L, r ∈ l ∧ mvOk M mkO sl l r) (h0 : hasP mkO B (obL M l) (fun _ => none)) : ∃ C, fm_findParents_158 mFU B 0 = some C ∧ mEx (fun k => k = 56) B C ∧ hasP mkO C (obL M l) (paL M mkO sl L) := by
  have hnO : (obL M l).Nodup := (perm_srt rNm _).nodup_iff.mpr (hnd.sublist List.filter_sublist)
  have hbO : ∀ r ∈ obL M l, r < 1000 := fun r hr => hb r (obL_mem.mp hr).1
  obtain ⟨b, q1, q2⟩ := loopI (σ := mSt) (β := mSt) (N := L.length) (F := fun k B i => fm_findParents_158 k B (Int32.ofNat i)) (Q := fun C => mEx (fun k => k = 56) B C ∧ hasP mkO C (obL M l) (paL M mkO sl L))
    (fun i C => mEx (fun k => k = 56) B C ∧ hasP mkO C (obL M l) (paL M mkO sl (L.take i)))
    (fun k C hI => ⟨C, by
      show fm_findParents_158 (k + 1) C (Int32.ofNat L.length) = _
      have e57 : C.1 57 = Int32.ofNat L.length := by rw [(hI.1 57 (by omega)).1]; exact hV.1
      rw [fm_findParents_158, e57, if_pos ((jI_le (by omega) (by omega)).mpr (Nat.le_refl _))], by rw [List.take_length] at hI; exact hI⟩)
    (fun k C i hi hI => Or.inl (by
      have e57 : C.1 57 = Int32.ofNat L.length := by rw [(hI.1 57 (by omega)).1]; exact hV.1
      have e58 : C.2 58 i = Int32.ofNat L[i] := by rw [(hI.1 58 (by omega)).2]; exact hV.2 i hi
      have eC : mEx sc M C := mEx_trans e (mEx_mono hI.1 (fun j hj => by unfold sc; omega))
      have hOC : inO C (obL M l) := ⟨by rw [(hI.1 54 (by omega)).1]; exact hO.1, by rw [(hI.1 55 (by omega)).2]; exact hO.2⟩
      obtain ⟨hrl, s, m, hm1, hm2, hm3, hm4, hm5, hm6, hm7⟩ := hmv _ (List.getElem_mem hi)
      have hr := hb _ hrl
      have hone : Int32.ofNat i + 1 = Int32.ofNat (i + 1) := jI_add i 1
      show ∃ st', _ ∧ fm_findParents_158 (k + 1) C (Int32.ofNat i) = _
      rw [fm_findParents_158, e57, if_neg (fun q => absurd ((jI_le (by omega) (by omega)).mp q) (by omega)), ck_n (by omega) (by omega), lt_d, rd_n _ _ (by omega), e58, ck_n hr (by omega), ck_n hr (by omega), rd_e eC (by decide) (by omega), rd_e eC (by decide) (by omega), hm4]
      unfold fm_findParents_218
      simp only [lt_d, hone]
      have hpa : ∀ pr, pr = paL M mkO sl (L.take i) → paL M mkO sl (L.take (i + 1)) = pSt M mkO sl pr L[i] := fun pr ep => by
        rw [take_app hi, ep]; unfold paL; rw [List.foldl_append]; rfl
      have hac : acy (paL M mkO sl (L.take i)) := acy_paL (fun q hq => by
        obtain ⟨-, s', -, -, -, -, -, h5, h6, -⟩ := hmv q (List.mem_of_mem_take hq)
        exact ⟨s', h6, h5⟩)
      have hin : ∀ j q, paL M mkO sl (L.take i) j = some q → ∃ m, mkO q = some m ∧ m ∈ obL M l := par_in hK (fun q hq => (hmv q (List.mem_of_mem_take hq)).2)
      rw [hpa _ rfl]
      have hPi := hI.2
      generalize paL M mkO sl (L.take i) = pr at hac hin hPi
      obtain ⟨kk, hkk, ekk⟩ := List.mem_iff_getElem.mp (obL_mem.mpr ⟨hm2, hm3⟩)
      have hpl := m_placeOf hOC h48 hbO hkk hnO
      rw [ekk] at hpl
      have hring : ∀ o, (∀ a, o = some a → a < 48 ∧ ∃ m, mkO a = some m ∧ m ∈ obL M l) → fm_isRing C (Int32.ofNat (rNm m)) (nmI mkO o) = some (b2 (undr pr s 48 o = true)) := fun o ho => by
        obtain ⟨d, hd⟩ := hac.1
        exact m_isRing (B := C) hK hOC h48 hnO (fun r => obL_mem) hb hPi hac hin hm1 48 mFU o [] d hd (by simp) (by decide) List.nodup_nil (fun a ea => ⟨ho a ea, fun v hv => by cases hv⟩)
      have wrt : ∀ o, M.2 12 L[i] = nmI mkO o → hasP mkO (wr C 56 (Int32.ofNat kk) (M.2 12 L[i])) (obL M l) (upo pr s o) := fun o ho k' hk' j hj => by
        rw [wr_s _ _ (by omega)]
        by_cases ek : k' = kk
        · subst ek
          have : j = s := hK.2.1 j s m (by rw [hj, ekk]) hm1
          rw [upd_s, this, upo_s, ho]
        · have : j ≠ s := fun q => by
            subst q
            rw [hm1] at hj
            have h5 := Option.some.inj hj
            rw [← ekk] at h5
            exact ek ((List.getElem_inj hnO).mp h5).symm
          rw [upd_o _ _ ek, upo_o _ _ this]
          exact hPi k' hk' j hj
      unfold pSt
      rw [hm5, jI_cl (show s < 2147483648 by omega)]
      have set : ∀ o, M.2 12 L[i] = nmI mkO o → undr pr s 48 o = false → (∀ a, o = some a → a < 48 ∧ ∃ m, mkO a = some m ∧ m ∈ obL M l) → ∃ st', (mEx (fun k => k = 56) B st' ∧ hasP mkO st' (obL M l) (upo pr s o)) ∧ (bd (fm_isRing C (Int32.ofNat (rNm m)) (M.2 12 L[i])) fun r3 => if r3 = 0 then ck (Int32.ofNat L[i]) 1000 (bd (fm_placeOf C (Int32.ofNat (rNm m))) fun r5 => ck (Int32.ofNat L[i]) 1000 (ck r5 48 (fm_findParents_158 k (wr C 56 r5 (M.2 12 L[i])) (Int32.ofNat (i + 1))))) else fm_findParents_158 k C (Int32.ofNat (i + 1))) = fm_findParents_158 k st' (Int32.ofNat (i + 1)) := fun o ho hu hh => by
        refine ⟨wr C 56 (Int32.ofNat kk) (M.2 12 L[i]), ⟨mEx_trans hI.1 (mEx_wr1 _ _), wrt o ho⟩, ?_⟩
        rw [ho, hring o hh, bd_s, hu, if_pos bFn, ck_n hr (by omega), hpl, bd_s, ck_n hr (by omega), ck_n (by omega) (by omega)]
      rcases hm7 with hv | ⟨j', m', k1, k2, k3, k4⟩
      · rw [hv, slF_neg hK.1, ← hv]
        exact set none hv (by unfold undr; rfl) (fun a ha => by cases ha)
      · have hsl : slF mkO (M.2 12 L[i]) = some j' := by rw [k4]; exact slF_mk hK.2.1 hK.1 k1
        have hnm : M.2 12 L[i] = nmI mkO (some j') := by show M.2 12 L[i] = (match mkO j' with | none => (-1 : Int32) | some m => Int32.ofNat (rNm m)); rw [k1]; exact k4
        have hh : ∀ a, some j' = some a → a < 48 ∧ ∃ m, mkO a = some m ∧ m ∈ obL M l := fun a ha => by
          cases ha
          exact ⟨(hK.1 _ _ k1).1, m', k1, obL_mem.mpr ⟨k2, k3⟩⟩
        rw [hsl]
        show ∃ st', (_ ∧ hasP mkO st' (obL M l) (if undr pr s 48 (some j') then pr else upo pr s (some j'))) ∧ _
        cases hu : undr pr s 48 (some j')
        · exact set (some j') hnm hu hh
        · refine ⟨C, ⟨hI.1, hPi⟩, ?_⟩
          rw [hnm, hring _ hh, bd_s, hu, if_neg bTn]))
    L.length 0 mFU B (by omega) (Nat.lt_of_le_of_lt hL (by decide)) ⟨mEx_refl _ _, h0⟩
  exact ⟨b, q1, q2⟩
end R
