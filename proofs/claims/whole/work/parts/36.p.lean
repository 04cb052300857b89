-- part 36: the reference's objects
def mkP (M : mSt) (r : Nat) : Bool := decide (M.2 9 r = 0)
/-- the objects of the rows l, in the order of their names -/
def obL (M : mSt) (l : List Nat) : List Nat := srt rNm (l.filter (mkP M))
def inO (A : mSt) (L : List Nat) : Prop := A.1 54 = Int32.ofNat L.length ∧ ∀ i (h : i < L.length), A.2 55 i = Int32.ofNat (rNm L[i])
def wO : Nat → Prop := fun k => k = 54 ∨ k = 55
theorem m_objGo {L : List Nat} {r : Nat} (hr : r < 1000) (hL : L.length < 48) (hb : ∀ i (h : i < L.length), L[i] < 1000) (hs : sdl rNm L) (g7 : mSt → Int32 → Int32 → Int32 → Option mSt) (v1 v2 v3 : Int32) : ∀ (k fu : Nat) (A : mSt), A.1 54 = Int32.ofNat L.length → k ≤ L.length → k < fu → (∀ j (h : j < L.length), j < k → A.2 55 j = Int32.ofNat (rNm L[j])) → (∀ j (h : j < L.length), k ≤ j → A.2 55 (j + 1) = Int32.ofNat (rNm L[j])) → (∀ j (h : j < L.length), k ≤ j → rNm r < rNm L[j]) → ∃ B, fm_findObjects_39 g7 fu A v1 v2 v3 (Int32.ofNat r) (Int32.ofNat k) = fm_findObjects_105 g7 B v1 v2 v3 ∧ mEx wO A B ∧ inO B (ins rNm r L) := by
  have hrn := rNm_lt hr
  have fin : ∀ (k : Nat) (A : mSt), A.1 54 = Int32.ofNat L.length → k ≤ L.length → (∀ j (h : j < L.length), j < k → A.2 55 j = Int32.ofNat (rNm L[j])) → (∀ j (h : j < L.length), k ≤ j → A.2 55 (j + 1) = Int32.ofNat (rNm L[j])) → (∀ j (h : j < L.length), k ≤ j → rNm r < rNm L[j]) → (∀ (h : k - 1 < L.length), 0 < k → rNm (L[k - 1]) ≤ rNm r) → ∃ B, fm_findObjects_83 g7 A v1 v2 v3 (Int32.ofNat r) (Int32.ofNat k) = fm_findObjects_105 g7 B v1 v2 v3 ∧ mEx wO A B ∧ inO B (ins rNm r L) := by
    intro k A h1 hk h2 h3 h4 h5
    have hone : Int32.ofNat L.length + 1 = Int32.ofNat (L.length + 1) := jI_add L.length 1
    have e1 : (wr A 55 (Int32.ofNat k) (Int32.ofNat (rNm r))).1 54 = Int32.ofNat L.length := h1
    unfold fm_findObjects_83
    rw [m_nameOf hr, bd_s, ck_n (by omega) (by omega), lt_d, lt_d, e1, hone]
    refine ⟨_, rfl, mEx_trans (mEx_wr (by unfold wO; omega) _ _) (mEx_pu (by unfold wO; omega) _), ?_⟩
    rw [ins_at k hs hk h4 h5]
    refine ⟨?_, fun i hi => ?_⟩
    · rw [pu_s]; congr 1; simp; omega
    · obtain ⟨c1, c2, c3⟩ := cat_get (r := r) hk hi
      rw [pu_2, wr_s _ _ (by omega)]
      rcases Nat.lt_trichotomy i k with c | c | c
      · obtain ⟨q1, q2⟩ := c1 c
        rw [q2, upd_o _ _ (by omega)]
        exact h2 i q1 c
      · rw [c2 c, c, upd_s]
      · obtain ⟨q1, q2⟩ := c3 c
        rw [q2, upd_o _ _ (by omega)]
        have := h3 (i - 1) q1 (by omega)
        rwa [show i - 1 + 1 = i by omega] at this
  intro k
  induction k with
  | zero =>
    intro fu A h1 hk hf h2 h3 h4
    obtain ⟨fu, rfl⟩ : ∃ q, fu = q + 1 := ⟨fu - 1, by omega⟩
    rw [fm_findObjects_39, if_pos (by decide)]
    exact fin 0 A h1 hk h2 h3 h4 (fun _ h => absurd h (by omega))
  | succ k ih =>
    intro fu A h1 hk hf h2 h3 h4
    obtain ⟨fu, rfl⟩ : ∃ q, fu = q + 1 := ⟨fu - 1, by omega⟩
    have hk' : k < L.length := by omega
    have hkk : Int32.ofNat (k + 1) - (1 : Int32) = Int32.ofNat k := by show Int32.ofNat (k + 1) - Int32.ofNat 1 = _; rw [jI_sub (by omega)]; rfl
    have hkm : Int32.ofNat (k + 1) + (-1 : Int32) = Int32.ofNat k := by rw [← hkk, Int32.sub_eq_add_neg]
    have hfr := h2 k hk' (by omega)
    have hln := rNm_lt (hb k hk')
    rw [fm_findObjects_39, if_neg (jI_p (by omega) (by omega)), hkk, hkm, ck_n (by omega) (by omega), m_nameOf hr, bd_s, rd_n _ _ (by omega), hfr]
    by_cases hlt : rNm L[k] ≤ rNm r
    · rw [if_pos ((jI_le (by omega) (by omega)).mpr hlt)]
      exact fin (k + 1) A h1 hk h2 h3 h4 (fun h _ => hlt)
    · rw [if_neg (fun q => hlt ((jI_le (by omega) (by omega)).mp q)), ck_n (by omega) (by omega), ck_n (by omega) (by omega), lt_d, lt_d]
      have e1 : mEx wO A (wr A 55 (Int32.ofNat (k + 1)) (Int32.ofNat (rNm L[k]))) := mEx_wr (by unfold wO; omega) _ _
      obtain ⟨B, q1, q2, q3⟩ := ih fu (wr A 55 (Int32.ofNat (k + 1)) (Int32.ofNat (rNm L[k]))) h1 (by omega) (by omega) (fun j hj hjk => by
        rw [wr_s _ _ (by omega), upd_o _ _ (by omega)]
        exact h2 j hj (by omega)) (fun j hj hjk => by
        rw [wr_s _ _ (by omega)]
        by_cases ej : j = k
        · subst ej; rw [upd_s]
        · rw [upd_o _ _ (by omega)]; exact h3 j hj (by omega)) (fun j hj hjk => by
        by_cases ej : j = k
        · subst ej; exact Nat.not_le.mp hlt
        · exact h4 j hj (by omega))
      exact ⟨B, q1, mEx_trans e1 q2, q3⟩
section R
variable {M A : mSt} {n : Nat} {l : List Nat}
theorem m_findObjects (e : mEx sc M A) (h2 : lAt M n l) (h48 : (l.filter (mkP M)).length ≤ 48) : ∃ B, fm_findObjects A (Int32.ofNat n) (Int32.ofNat l.length) = some B ∧ mEx wO A B ∧ inO B (obL M l) := by
  have hle := h2.2.1
  unfold fm_findObjects
  rw [lt_d]
  obtain ⟨b, q1, q2⟩ := loopI (σ := mSt) (β := mSt) (N := l.length) (F := fun k B i => fm_findObjects_7 k B (Int32.ofNat n) (Int32.ofNat l.length) (Int32.ofNat i)) (Q := fun B => mEx wO A B ∧ inO B (obL M l))
    (fun i B => mEx wO A B ∧ inO B (srt rNm ((l.take i).filter (mkP M))))
    (fun k B hI => ⟨B, by
      show fm_findObjects_7 (k + 1) B _ _ (Int32.ofNat l.length) = _
      rw [fm_findObjects_7, if_pos ((jI_le (by omega) (by omega)).mpr (Nat.le_refl _))], by rw [List.take_length] at hI; exact hI⟩)
    (fun k B i hi hI => Or.inl (by
      have hr := (h2.2.2 i hi).2
      have eB : mEx sc M B := mEx_trans e (mEx_mono hI.1 (fun j hj => by unfold wO at hj; unfold sc; omega))
      have hone : Int32.ofNat i + 1 = Int32.ofNat (i + 1) := jI_add i 1
      show ∃ st', _ ∧ fm_findObjects_7 (k + 1) B _ _ (Int32.ofNat i) = _
      rw [fm_findObjects_7, if_neg (fun q => absurd ((jI_le (by omega) (by omega)).mp q) (by omega)), m_rowAtL eB h2 hi, bd_s, ck_n hr (by omega), rd_e eB (by decide) (by omega), take_app hi, List.filter_append]
      have g105 : ∀ C, fm_findObjects_105 (fm_findObjects_7 k) C (Int32.ofNat n) (Int32.ofNat l.length) (Int32.ofNat i) = fm_findObjects_7 k C (Int32.ofNat n) (Int32.ofNat l.length) (Int32.ofNat (i + 1)) := fun C => by
        unfold fm_findObjects_105; rw [lt_d, hone]
      by_cases c : M.2 9 l[i] = 0
      · have hf : List.filter (mkP M) [l[i]] = [l[i]] := by simp [mkP, c]
        have hsub : ((l.take (i + 1)).filter (mkP M)).length ≤ 48 := Nat.le_trans ((List.take_sublist (i + 1) l).filter _).length_le h48
        rw [take_app hi, List.filter_append, hf, List.length_append] at hsub
        have hsub' : ((l.take i).filter (mkP M)).length + 1 ≤ 48 := hsub
        rw [if_pos c, lt_d, hI.2.1, hf, srt_app]
        obtain ⟨C, c1, c2, c3⟩ := m_objGo (L := srt rNm ((l.take i).filter (mkP M))) hr (by rw [len_srt]; omega) (fun j hj => lAt_mem h2 (List.mem_of_mem_take (List.mem_filter.mp (mem_srt.mp (List.getElem_mem hj))).1)) (sdl_srt _ _) (fm_findObjects_7 k) (Int32.ofNat n) (Int32.ofNat l.length) (Int32.ofNat i) _ mFU B hI.2.1 (Nat.le_refl _) (by rw [len_srt]; unfold mFU; omega) (fun j hj _ => hI.2.2 j hj) (fun j hj hd => absurd hj (by omega)) (fun j hj hd => absurd hj (by omega))
        exact ⟨C, ⟨mEx_trans hI.1 c2, c3⟩, by rw [c1, g105]⟩
      · have hf : List.filter (mkP M) [l[i]] = [] := by simp [mkP, c]
        rw [if_neg c, g105, hf, List.append_nil]
        exact ⟨B, hI, rfl⟩))
    l.length 0 mFU (pu A 54 0) (by omega) (Nat.lt_of_le_of_lt hle (by decide)) ⟨mEx_pu (by unfold wO; omega) _, pu_s _ _ _, fun i hi => absurd hi (by simp [srt])⟩
  exact ⟨b, q1, q2⟩
theorem obL_mem {r : Nat} : r ∈ obL M l ↔ r ∈ l ∧ M.2 9 r = 0 := by
  unfold obL
  rw [mem_srt, List.mem_filter]
  simp [mkP]
theorem m_placeOf {B : mSt} {L : List Nat} (hO : inO B L) (hL : L.length ≤ 48) (hb : ∀ r ∈ L, r < 1000) {k : Nat} (hk : k < L.length) (hn : L.Nodup) : fm_placeOf B (Int32.ofNat (rNm L[k])) = some (Int32.ofNat k) := by
  unfold fm_placeOf
  have key := loopE (σ := Unit) (β := Int32) (N := k) (F := fun fu _ i => fm_placeOf_2 B fu (Int32.ofNat (rNm L[k])) (Int32.ofNat i)) (R := some (Int32.ofNat k)) (fun _ _ => True)
    (fun fu _ _ => by
      show fm_placeOf_2 B (fu + 1) _ (Int32.ofNat k) = _
      rw [fm_placeOf_2, hO.1, if_neg (fun q => absurd ((jI_le (by omega) (by omega)).mp q) (by omega)), ck_n (by omega) (by omega), rd_n _ _ (by omega), hO.2 k hk, if_pos rfl])
    (fun fu _ i hi _ => Or.inl ⟨(), trivial, by
      show fm_placeOf_2 B (fu + 1) _ (Int32.ofNat i) = _
      have hone : Int32.ofNat i + 1 = Int32.ofNat (i + 1) := jI_add i 1
      rw [fm_placeOf_2, hO.1, if_neg (fun q => absurd ((jI_le (by omega) (by omega)).mp q) (by omega)), ck_n (by omega) (by omega), rd_n _ _ (by omega), hO.2 i (by omega), if_neg (fun q => by
        have := rNm_inj (hb _ (List.getElem_mem (by omega))) (hb _ (List.getElem_mem hk)) q
        have := (List.getElem_inj hn).mp this
        omega), lt_d, hone]⟩)
    k 0 mFU () (by omega) (by unfold mFU; omega) trivial
  exact key
end R
/-- parents go up without rings -/
def acy (pr : Nat → Option Nat) : Prop := (∃ d : Nat → Nat, ∀ a b, pr a = some b → d b < d a) ∧ ∀ a b, pr a = some b → a < 48 ∧ b < 48
theorem nd48 : ∀ (N : Nat) (l : List Nat), l.Nodup → (∀ x ∈ l, x < N) → l.length ≤ N := by
  intro N
  induction N with
  | zero =>
    intro l _ h
    cases l with
    | nil => exact Nat.le_refl _
    | cons a l => exact absurd (h a List.mem_cons_self) (by omega)
  | succ N ih =>
    intro l hn h
    have h1 : (l.filter (fun x => decide (x ≠ N))).length ≤ N := ih _ (hn.sublist List.filter_sublist) (fun x hx => by
      have hx2 := List.mem_filter.mp hx
      have := h x hx2.1
      have h3 : x ≠ N := by simpa using hx2.2
      omega)
    have h2 : l.length ≤ (l.filter (fun x => decide (x ≠ N))).length + 1 := by
      clear ih h h1
      induction l with
      | nil => simp
      | cons a l ih =>
        have hp := List.nodup_cons.mp hn
        by_cases ea : a = N
        · have : l.filter (fun x => decide (x ≠ N)) = l := by
            rw [List.filter_eq_self]
            intro x hx
            have : x ≠ N := fun e => hp.1 (ea ▸ e ▸ hx)
            simpa using this
          rw [List.filter_cons, if_neg (by simp [ea]), this]; simp
        · have := ih hp.2
          simp [ea]
          simpa using this
    omega
theorem undr_up {pr : Nat → Option Nat} {s : Nat} (h : acy pr) : ∀ (n : Nat) (a : Nat) (vis : List Nat) (d : Nat → Nat), (∀ a b, pr a = some b → d b < d a) → a < 48 → vis.Nodup → (∀ v ∈ vis, v < 48 ∧ d a < d v) → undr pr s n (some a) = true → undr pr s (48 - vis.length) (some a) = true := by
  intro n
  induction n with
  | zero => intro a vis d _ _ _ _ hu; cases hu
  | succ n ih =>
    intro a vis d hd ha hn hv hu
    have hna : a ∉ vis := fun q => absurd (hv a q).2 (Nat.lt_irrefl _)
    have hlen : (a :: vis).length ≤ 48 := nd48 48 _ (List.nodup_cons.mpr ⟨hna, hn⟩) (fun x hx => by
      rcases List.mem_cons.mp hx with rfl | hx
      · exact ha
      · exact (hv x hx).1)
    have hlen' : vis.length + 1 ≤ 48 := hlen
    obtain ⟨k, hk⟩ : ∃ k, 48 - vis.length = k + 1 := ⟨47 - vis.length, by omega⟩
    rw [hk]
    have hu1 : (if a = s then true else undr pr s n (pr a)) = true := hu
    show (if a = s then true else undr pr s k (pr a)) = true
    by_cases e : a = s
    · rw [if_pos e]
    · rw [if_neg e] at hu1 ⊢
      cases hb : pr a with
      | none =>
        rw [hb] at hu1
        cases n with
        | zero => cases hu1
        | succ n => cases hu1
      | some b =>
        rw [hb] at hu1
        have := ih b (a :: vis) d hd (h.2 a b hb).2 (List.nodup_cons.mpr ⟨hna, hn⟩) (fun v hv' => by
          rcases List.mem_cons.mp hv' with rfl | hv'
          · exact ⟨ha, hd _ _ hb⟩
          · exact ⟨(hv v hv').1, Nat.lt_trans (hd _ _ hb) (hv v hv').2⟩) hu1
        rwa [show 48 - (a :: vis).length = k by simp; omega] at this
theorem undr_48 {pr : Nat → Option Nat} {s : Nat} (h : acy pr) {n a : Nat} (ha : a < 48) (hu : undr pr s n (some a) = true) : undr pr s 48 (some a) = true := by
  obtain ⟨d, hd⟩ := h.1
  exact undr_up h n a [] d hd ha List.nodup_nil (fun v hv => by cases hv) hu
theorem undr_mono {pr : Nat → Option Nat} {s : Nat} : ∀ (n m : Nat) (o : Option Nat), n ≤ m → undr pr s n o = true → undr pr s m o = true := by
  intro n
  induction n with
  | zero => intro m o _ h; cases o <;> cases h
  | succ n ih =>
    intro m o hm h
    obtain ⟨m, rfl⟩ : ∃ q, m = q + 1 := ⟨m - 1, by omega⟩
    cases o with
    | none => cases h
    | some a =>
      have h1 : (if a = s then true else undr pr s n (pr a)) = true := h
      show (if a = s then true else undr pr s m (pr a)) = true
      by_cases e : a = s
      · rw [if_pos e]
      · rw [if_neg e] at h1 ⊢
        exact ih m (pr a) (by omega) h1
/-- a step of a move keeps parents without rings -/
theorem acy_upo {pr : Nat → Option Nat} {s p : Nat} (h : acy pr) (hs : s < 48) (hp : p < 48) (hu : undr pr s 48 (some p) = false) : acy (upo pr s (some p)) := by
  obtain ⟨d, hd⟩ := h.1
  refine ⟨?_, fun a b hab => ?_⟩
  · refine ⟨fun x => d x + (if undr pr s 48 (some x) = true then d p + 1 else 0), fun a b hab => ?_⟩
    by_cases ea : a = s
    · subst ea
      rw [upo_s] at hab
      cases hab
      have h1 : undr pr a 48 (some a) = true := by
        show (if a = a then true else undr pr a 47 (pr a)) = true
        rw [if_pos rfl]
      show d p + (if undr pr a 48 (some p) = true then d p + 1 else 0) < d a + (if undr pr a 48 (some a) = true then d p + 1 else 0)
      rw [if_neg (by rw [hu]; decide), if_pos h1]
      omega
    · rw [upo_o _ _ ea] at hab
      have hb48 := h.2 a b hab
      have hlt := hd a b hab
      have hiff : undr pr s 48 (some a) = undr pr s 48 (some b) := by
        rw [Bool.eq_iff_iff]
        constructor
        · intro q
          have hun : undr pr s 48 (some a) = undr pr s 47 (some b) := by
            show (if a = s then true else undr pr s 47 (pr a)) = _
            rw [if_neg ea, hab]
          rw [hun] at q; exact undr_mono 47 48 _ (by decide) q
        · intro q
          have : undr pr s 49 (some a) = true := by
            show (if a = s then true else undr pr s 48 (pr a)) = true
            rw [if_neg ea, hab]; exact q
          exact undr_48 h hb48.1 this
      show d b + (if undr pr s 48 (some b) = true then d p + 1 else 0) < d a + (if undr pr s 48 (some a) = true then d p + 1 else 0)
      rw [hiff]; omega
  · by_cases ea : a = s
    · subst ea; rw [upo_s] at hab; cases hab; exact ⟨hs, hp⟩
    · rw [upo_o _ _ ea] at hab; exact h.2 a b hab
theorem acy_none {pr : Nat → Option Nat} {s : Nat} (h : acy pr) : acy (upo pr s none) := by
  obtain ⟨d, hd⟩ := h.1
  refine ⟨⟨d, fun a b hab => ?_⟩, fun a b hab => ?_⟩
  · by_cases ea : a = s
    · subst ea; rw [upo_s] at hab; cases hab
    · rw [upo_o _ _ ea] at hab; exact hd a b hab
  · by_cases ea : a = s
    · subst ea; rw [upo_s] at hab; cases hab
    · rw [upo_o _ _ ea] at hab; exact h.2 a b hab
theorem acy_pSt {M : mSt} {mkO : Nat → Option Nat} {sl : Nat → Int32} {pr : Nat → Option Nat} (h : acy pr) {r s : Nat} (hs : s < 48) (es : sl r = Int32.ofNat s) : acy (pSt M mkO sl pr r) := by
  unfold pSt
  rw [es, jI_cl (by omega)]
  cases hsl : slF mkO (M.2 12 r) with
  | none => exact acy_none h
  | some p =>
    show acy (if undr pr s 48 (some p) then pr else upo pr s (some p))
    cases hu : undr pr s 48 (some p)
    · exact acy_upo h hs (slF_some hsl).1 hu
    · exact h
theorem acy_paL {M : mSt} {mkO : Nat → Option Nat} {sl : Nat → Int32} {L : List Nat} (hs : ∀ r ∈ L, ∃ s, s < 48 ∧ sl r = Int32.ofNat s) : acy (paL M mkO sl L) := by
  unfold paL
  have key : ∀ (L : List Nat) (pr : Nat → Option Nat), acy pr → (∀ r ∈ L, ∃ s, s < 48 ∧ sl r = Int32.ofNat s) → acy (L.foldl (pSt M mkO sl) pr) := by
    intro L
    induction L with
    | nil => intro pr h _; exact h
    | cons r L ih =>
      intro pr h hs
      obtain ⟨s, h1, h2⟩ := hs r List.mem_cons_self
      exact ih _ (acy_pSt h h1 h2) (fun q hq => hs q (List.mem_cons_of_mem _ hq))
  exact key L _ ⟨⟨fun _ => 0, fun a b h => by cases h⟩, fun a b h => by cases h⟩ hs
