-- part 58: the reference's logs; turns of lists
/-- what goes and what comes, of two lists in order -/
def mdf : List Nat → List Nat → List (Nat × Int32)
  | [], [] => []
  | a :: A, [] => (a, 0) :: mdf A []
  | [], b :: B => (b, 1) :: mdf [] B
  | a :: A, b :: B => if a < b then (a, 0) :: mdf A (b :: B) else if b < a then (b, 1) :: mdf (a :: A) B else mdf A B
termination_by A B => A.length + B.length
theorem mdf_same : ∀ (A : List Nat), mdf A A = [] := by
  intro A
  induction A with
  | nil => unfold mdf; rfl
  | cons a A ih => unfold mdf; rw [if_neg (Nat.lt_irrefl a), if_neg (Nat.lt_irrefl a)]; exact ih
/-- one comes -/
theorem mdf_in : ∀ {A B : List Nat} {x : Nat}, A.Pairwise (· < ·) → B.Pairwise (· < ·) → x ∉ A → (∀ y, y ∈ B ↔ y = x ∨ y ∈ A) → mdf A B = [(x, 1)] := by
  intro A
  induction A with
  | nil =>
    intro B x _ hB _ h
    cases B with
    | nil => exact absurd ((h x).mpr (Or.inl rfl)) (by simp)
    | cons b B =>
      have e : b = x := ((h b).mp List.mem_cons_self).resolve_right (by simp)
      subst e
      cases B with
      | nil => simp [mdf]
      | cons c B =>
        have e2 : c = b := ((h c).mp (List.mem_cons_of_mem _ List.mem_cons_self)).resolve_right (by simp)
        have := (List.pairwise_cons.mp hB).1 c List.mem_cons_self
        omega
  | cons a A ih =>
    intro B x hA hB hx h
    cases B with
    | nil => exact absurd ((h x).mpr (Or.inl rfl)) (by simp)
    | cons b B =>
      obtain ⟨p1, p2⟩ := List.pairwise_cons.mp hA
      obtain ⟨q1, q2⟩ := List.pairwise_cons.mp hB
      have hxa : x ≠ a := fun e => hx (e ▸ List.mem_cons_self)
      rcases Nat.lt_or_gt_of_ne hxa with hlt | hgt
      · have e : b = x := by
          rcases List.mem_cons.mp ((h x).mpr (Or.inl rfl)) with h1 | h1
          · exact h1.symm
          · have h2 := q1 x h1
            rcases (h b).mp List.mem_cons_self with h3 | h3
            · exact h3
            · rcases List.mem_cons.mp h3 with h4 | h4
              · omega
              · have := p1 b h4; omega
        subst e
        have e2 : B = a :: A := by
          refine ord_ext (K := fun n => n) q2 hA fun y => ?_
          constructor
          · intro hy
            rcases (h y).mp (List.mem_cons_of_mem _ hy) with h1 | h1
            · have := q1 y hy; omega
            · exact h1
          · intro hy
            rcases List.mem_cons.mp ((h y).mpr (Or.inr hy)) with h1 | h1
            · subst h1; exact absurd hy hx
            · exact h1
        rw [e2]
        unfold mdf
        rw [if_neg (by omega), if_pos hlt, mdf_same]
      · have e : b = a := by
          rcases List.mem_cons.mp ((h a).mpr (Or.inr List.mem_cons_self)) with h1 | h1
          · exact h1.symm
          · have h2 := q1 a h1
            rcases (h b).mp List.mem_cons_self with h3 | h3
            · omega
            · rcases List.mem_cons.mp h3 with h4 | h4
              · exact h4
              · have := p1 b h4; omega
        subst e
        unfold mdf
        rw [if_neg (Nat.lt_irrefl b), if_neg (Nat.lt_irrefl b)]
        refine ih p2 q2 (fun q => hx (List.mem_cons_of_mem _ q)) fun y => ?_
        constructor
        · intro hy
          rcases (h y).mp (List.mem_cons_of_mem _ hy) with h1 | h1
          · exact Or.inl h1
          · rcases List.mem_cons.mp h1 with h2 | h2
            · have := q1 y hy; omega
            · exact Or.inr h2
        · intro hy
          rcases List.mem_cons.mp ((h y).mpr (hy.elim Or.inl (fun q => Or.inr (List.mem_cons_of_mem _ q)))) with h1 | h1
          · rcases hy with h2 | h2
            · omega
            · have := p1 y h2; omega
          · exact h1
/-- one goes -/
theorem mdf_out : ∀ {A B : List Nat} {x : Nat}, A.Pairwise (· < ·) → B.Pairwise (· < ·) → x ∉ B → (∀ y, y ∈ A ↔ y = x ∨ y ∈ B) → mdf A B = [(x, 0)] := by
  intro A
  induction A with
  | nil => intro B x _ _ _ h; exact absurd ((h x).mpr (Or.inl rfl)) (by simp)
  | cons a A ih =>
    intro B x hA hB hx h
    obtain ⟨p1, p2⟩ := List.pairwise_cons.mp hA
    cases B with
    | nil =>
      have e : a = x := ((h a).mp List.mem_cons_self).resolve_right (by simp)
      subst e
      cases A with
      | nil => simp [mdf]
      | cons c A =>
        have e2 : c = a := ((h c).mp (List.mem_cons_of_mem _ List.mem_cons_self)).resolve_right (by simp)
        have := p1 c List.mem_cons_self
        omega
    | cons b B =>
      obtain ⟨q1, q2⟩ := List.pairwise_cons.mp hB
      have hxb : x ≠ b := fun e => hx (e ▸ List.mem_cons_self)
      rcases Nat.lt_or_gt_of_ne hxb with hlt | hgt
      · have e : a = x := by
          rcases List.mem_cons.mp ((h x).mpr (Or.inl rfl)) with h1 | h1
          · exact h1.symm
          · have h2 := p1 x h1
            rcases (h a).mp List.mem_cons_self with h3 | h3
            · exact h3
            · rcases List.mem_cons.mp h3 with h4 | h4
              · omega
              · have := q1 a h4; omega
        subst e
        have e2 : A = b :: B := by
          refine ord_ext (K := fun n => n) p2 hB fun y => ?_
          constructor
          · intro hy
            rcases (h y).mp (List.mem_cons_of_mem _ hy) with h1 | h1
            · have := p1 y hy; omega
            · exact h1
          · intro hy
            rcases List.mem_cons.mp ((h y).mpr (Or.inr hy)) with h1 | h1
            · subst h1; exact absurd hy hx
            · exact h1
        rw [e2]
        unfold mdf
        rw [if_pos hlt, mdf_same]
      · have e : a = b := by
          rcases List.mem_cons.mp ((h b).mpr (Or.inr List.mem_cons_self)) with h1 | h1
          · exact h1.symm
          · have h2 := p1 b h1
            rcases (h a).mp List.mem_cons_self with h3 | h3
            · omega
            · rcases List.mem_cons.mp h3 with h4 | h4
              · exact h4
              · have := q1 a h4; omega
        subst e
        unfold mdf
        rw [if_neg (Nat.lt_irrefl a), if_neg (Nat.lt_irrefl a)]
        refine ih p2 q2 (fun q => hx (List.mem_cons_of_mem _ q)) fun y => ?_
        constructor
        · intro hy
          rcases (h y).mp (List.mem_cons_of_mem _ hy) with h1 | h1
          · exact Or.inl h1
          · rcases List.mem_cons.mp h1 with h2 | h2
            · have := p1 y hy; omega
            · exact Or.inr h2
        · intro hy
          rcases List.mem_cons.mp ((h y).mpr (hy.elim Or.inl (fun q => Or.inr (List.mem_cons_of_mem _ q)))) with h1 | h1
          · rcases hy with h2 | h2
            · omega
            · have := q1 y h2; omega
          · exact h1
/-- the reference's log of turns, and of news, at a node -/
def mTu (A : mSt) (n : Nat) (F : List En) : Prop := F.length ≤ 200 ∧ A.2 37 n = Int32.ofNat F.length ∧ ∀ i (h : i < F.length), A.2 38 (200 * n + i) = F[i].1 ∧ A.2 39 (200 * n + i) = F[i].2.1 ∧ A.2 40 (200 * n + i) = F[i].2.2.1 ∧ A.2 41 (200 * n + i) = F[i].2.2.2
def mNw (A : mSt) (n : Nat) (E : List En) : Prop := E.length ≤ 250 ∧ A.2 27 n = Int32.ofNat E.length ∧ ∀ i (h : i < E.length), A.2 28 (250 * n + i) = E[i].1 ∧ A.2 29 (250 * n + i) = E[i].2.1 ∧ A.2 30 (250 * n + i) = E[i].2.2.1
/-- what another node has in a log is as it was -/
def otT (A B : mSt) (n : Nat) : Prop := ∀ n', n' ≠ n → B.2 37 n' = A.2 37 n' ∧ ∀ k, k < 200 → B.2 38 (200 * n' + k) = A.2 38 (200 * n' + k) ∧ B.2 39 (200 * n' + k) = A.2 39 (200 * n' + k) ∧ B.2 40 (200 * n' + k) = A.2 40 (200 * n' + k) ∧ B.2 41 (200 * n' + k) = A.2 41 (200 * n' + k)
def otN (A B : mSt) (n : Nat) : Prop := ∀ n', n' ≠ n → B.2 27 n' = A.2 27 n' ∧ ∀ k, k < 250 → B.2 28 (250 * n' + k) = A.2 28 (250 * n' + k) ∧ B.2 29 (250 * n' + k) = A.2 29 (250 * n' + k) ∧ B.2 30 (250 * n' + k) = A.2 30 (250 * n' + k)
theorem otT_refl (A : mSt) (n : Nat) : otT A A n := fun _ _ => ⟨rfl, fun _ _ => ⟨rfl, rfl, rfl, rfl⟩⟩
theorem otN_refl (A : mSt) (n : Nat) : otN A A n := fun _ _ => ⟨rfl, fun _ _ => ⟨rfl, rfl, rfl⟩⟩
theorem otT_trans {A B C : mSt} {n : Nat} (h : otT A B n) (h' : otT B C n) : otT A C n := fun n' hn => ⟨(h' n' hn).1.trans (h n' hn).1, fun k hk => ⟨((h' n' hn).2 k hk).1.trans ((h n' hn).2 k hk).1, ((h' n' hn).2 k hk).2.1.trans ((h n' hn).2 k hk).2.1, ((h' n' hn).2 k hk).2.2.1.trans ((h n' hn).2 k hk).2.2.1, ((h' n' hn).2 k hk).2.2.2.trans ((h n' hn).2 k hk).2.2.2⟩⟩
theorem otN_trans {A B C : mSt} {n : Nat} (h : otN A B n) (h' : otN B C n) : otN A C n := fun n' hn => ⟨(h' n' hn).1.trans (h n' hn).1, fun k hk => ⟨((h' n' hn).2 k hk).1.trans ((h n' hn).2 k hk).1, ((h' n' hn).2 k hk).2.1.trans ((h n' hn).2 k hk).2.1, ((h' n' hn).2 k hk).2.2.trans ((h n' hn).2 k hk).2.2⟩⟩
theorem otT_mEx {A B : mSt} {W : Nat → Prop} (e : mEx W A B) (hW : ∀ k, W k → k < 37 ∨ 41 < k) (n : Nat) : otT A B n := fun n' _ => by
  have f : ∀ k, 37 ≤ k → k ≤ 41 → B.2 k = A.2 k := fun k h1 h2 => (e k (fun q => by have := hW k q; omega)).2
  exact ⟨by rw [f 37 (by decide) (by decide)], fun k _ => ⟨by rw [f 38 (by decide) (by decide)], by rw [f 39 (by decide) (by decide)], by rw [f 40 (by decide) (by decide)], by rw [f 41 (by decide) (by decide)]⟩⟩
theorem otN_mEx {A B : mSt} {W : Nat → Prop} (e : mEx W A B) (hW : ∀ k, W k → k < 27 ∨ 30 < k) (n : Nat) : otN A B n := fun n' _ => by
  have f : ∀ k, 27 ≤ k → k ≤ 30 → B.2 k = A.2 k := fun k h1 h2 => (e k (fun q => by have := hW k q; omega)).2
  exact ⟨by rw [f 27 (by decide) (by decide)], fun k _ => ⟨by rw [f 28 (by decide) (by decide)], by rw [f 29 (by decide) (by decide)], by rw [f 30 (by decide) (by decide)]⟩⟩
theorem mTu_e {A B : mSt} {n : Nat} {F : List En} {W : Nat → Prop} (h : mTu A n F) (e : mEx W A B) (hW : ∀ k, W k → k < 37 ∨ 41 < k) : mTu B n F := by
  have f : ∀ k, 37 ≤ k → k ≤ 41 → B.2 k = A.2 k := fun k h1 h2 => (e k (fun q => by have := hW k q; omega)).2
  unfold mTu
  rw [f 37 (by decide) (by decide), f 38 (by decide) (by decide), f 39 (by decide) (by decide), f 40 (by decide) (by decide), f 41 (by decide) (by decide)]
  exact h
theorem mNw_e {A B : mSt} {n : Nat} {F : List En} {W : Nat → Prop} (h : mNw A n F) (e : mEx W A B) (hW : ∀ k, W k → k < 27 ∨ 30 < k) : mNw B n F := by
  have f : ∀ k, 27 ≤ k → k ≤ 30 → B.2 k = A.2 k := fun k h1 h2 => (e k (fun q => by have := hW k q; omega)).2
  unfold mNw
  rw [f 27 (by decide) (by decide), f 28 (by decide) (by decide), f 29 (by decide) (by decide), f 30 (by decide) (by decide)]
  exact h
def wTu : Nat → Prop := fun k => 37 ≤ k ∧ k ≤ 41
def wNw : Nat → Prop := fun k => 27 ≤ k ∧ k ≤ 30
theorem m_turn {A : mSt} {n r : Nat} (hn : n < 4) (hr : r < 1000) {F : List En} (h : mTu A n F) (q x c : Int32) : ∃ B, fm_turn A (Int32.ofNat n) (Int32.ofNat r) q x c = some B ∧ mEx wTu A B ∧ mTu B n (adE 200 F (Int32.ofNat (rNm r), q, x, c)) ∧ otT A B n := by
  obtain ⟨h1, h2, h3⟩ := h
  unfold fm_turn
  rw [ck_n hn (by omega), rd_n _ _ (by omega), h2]
  by_cases hl : F.length = 200
  · rw [if_pos (by rw [hl]; rfl)]
    refine ⟨A, rfl, mEx_refl _ _, ?_, otT_refl _ _⟩
    have : adE 200 F (Int32.ofNat (rNm r), q, x, c) = F := by unfold adE; rw [if_neg (by omega)]
    rw [this]; exact ⟨h1, h2, h3⟩
  · rw [if_neg (show ¬ Int32.ofNat F.length = 200 from fun z => hl ((jI_inj (b := 200) (by omega) (by omega)).mp z)), ck_n hn (by omega), lt_d, show (200 : Int32) = Int32.ofNat 200 from rfl, jI_mul, jI_add, m_nameOf hr, bd_s]
    have hb : 200 * n + F.length < 800 := by omega
    simp only [ck_n hb (show 200 * n + F.length < 2147483648 by omega), lt_d]
    rw [ck_n hn (by omega), ck_n hn (by omega)]
    refine ⟨_, rfl, mEx_trans (mEx_wr (by unfold wTu; omega) _ _) (mEx_trans (mEx_wr (by unfold wTu; omega) _ _) (mEx_trans (mEx_wr (by unfold wTu; omega) _ _) (mEx_trans (mEx_wr (by unfold wTu; omega) _ _) (mEx_wr (by unfold wTu; omega) _ _)))), ?_, fun n' hne => ?_⟩
    · have hE : adE 200 F (Int32.ofNat (rNm r), q, x, c) = F ++ [(Int32.ofNat (rNm r), q, x, c)] := by unfold adE; rw [if_pos (by omega)]
      rw [hE]
      refine ⟨by simp; omega, ?_, fun i hi => ?_⟩
      · rw [wr_s _ _ (by omega), upd_s, rd_n _ _ (by omega), wr_o _ _ _ (by decide), wr_o _ _ _ (by decide), wr_o _ _ _ (by decide), wr_o _ _ _ (by decide), h2, show (1 : Int32) = Int32.ofNat 1 from rfl, jI_add, List.length_append, List.length_singleton]
      · have f38 : ∀ B : mSt, B = wr (wr (wr (wr (wr A 38 (Int32.ofNat (200 * n + F.length)) (Int32.ofNat (rNm r))) 39 (Int32.ofNat (200 * n + F.length)) q) 40 (Int32.ofNat (200 * n + F.length)) x) 41 (Int32.ofNat (200 * n + F.length)) c) 37 (Int32.ofNat n) (rd (wr (wr (wr (wr A 38 (Int32.ofNat (200 * n + F.length)) (Int32.ofNat (rNm r))) 39 (Int32.ofNat (200 * n + F.length)) q) 40 (Int32.ofNat (200 * n + F.length)) x) 41 (Int32.ofNat (200 * n + F.length)) c) 37 (Int32.ofNat n) + 1) → B.2 38 = upd (A.2 38) (200 * n + F.length) (Int32.ofNat (rNm r)) ∧ B.2 39 = upd (A.2 39) (200 * n + F.length) q ∧ B.2 40 = upd (A.2 40) (200 * n + F.length) x ∧ B.2 41 = upd (A.2 41) (200 * n + F.length) c := fun B hB => by
          subst hB
          refine ⟨?_, ?_, ?_, ?_⟩
          · rw [wr_o _ _ _ (by decide), wr_o _ _ _ (by decide), wr_o _ _ _ (by decide), wr_o _ _ _ (by decide), wr_s _ _ (by omega)]
          · rw [wr_o _ _ _ (by decide), wr_o _ _ _ (by decide), wr_o _ _ _ (by decide), wr_s _ _ (by omega), wr_o _ _ _ (by decide)]
          · rw [wr_o _ _ _ (by decide), wr_o _ _ _ (by decide), wr_s _ _ (by omega), wr_o _ _ _ (by decide), wr_o _ _ _ (by decide)]
          · rw [wr_o _ _ _ (by decide), wr_s _ _ (by omega), wr_o _ _ _ (by decide), wr_o _ _ _ (by decide), wr_o _ _ _ (by decide)]
        obtain ⟨g1, g2, g3, g4⟩ := f38 _ rfl
        rw [g1, g2, g3, g4]
        by_cases hie : i < F.length
        · have e1 : (F ++ [(Int32.ofNat (rNm r), q, x, c)])[i] = F[i] := List.getElem_append_left hie
          rw [e1, upd_o _ _ (by omega), upd_o _ _ (by omega), upd_o _ _ (by omega), upd_o _ _ (by omega)]
          exact h3 i hie
        · have hi2 : i = F.length := by rw [List.length_append, List.length_singleton] at hi; omega
          subst hi2
          have e1 : (F ++ [(Int32.ofNat (rNm r), q, x, c)])[F.length] = (Int32.ofNat (rNm r), q, x, c) := by rw [List.getElem_append_right (Nat.le_refl _)]; simp
          rw [e1, upd_s, upd_s, upd_s, upd_s]
          exact ⟨rfl, rfl, rfl, rfl⟩
    · refine ⟨by rw [wr_s _ _ (by omega), upd_o _ _ hne, wr_o _ _ _ (by decide), wr_o _ _ _ (by decide), wr_o _ _ _ (by decide), wr_o _ _ _ (by decide)], fun k hk => ⟨?_, ?_, ?_, ?_⟩⟩
      · rw [wr_o _ _ _ (by decide), wr_o _ _ _ (by decide), wr_o _ _ _ (by decide), wr_o _ _ _ (by decide), wr_s _ _ (by omega), upd_o _ _ (by omega)]
      · rw [wr_o _ _ _ (by decide), wr_o _ _ _ (by decide), wr_o _ _ _ (by decide), wr_s _ _ (by omega), upd_o _ _ (by omega), wr_o _ _ _ (by decide)]
      · rw [wr_o _ _ _ (by decide), wr_o _ _ _ (by decide), wr_s _ _ (by omega), upd_o _ _ (by omega), wr_o _ _ _ (by decide), wr_o _ _ _ (by decide)]
      · rw [wr_o _ _ _ (by decide), wr_s _ _ (by omega), upd_o _ _ (by omega), wr_o _ _ _ (by decide), wr_o _ _ _ (by decide), wr_o _ _ _ (by decide)]
theorem m_tell {A : mSt} {n r : Nat} (hn : n < 4) (hr : r < 1000) {E : List En} (h : mNw A n E) (x c : Int32) : ∃ B, fm_tell A (Int32.ofNat n) (Int32.ofNat r) x c = some B ∧ mEx wNw A B ∧ mNw B n (adE 250 E (Int32.ofNat (rNm r), x, c, 0)) ∧ otN A B n := by
  obtain ⟨h1, h2, h3⟩ := h
  unfold fm_tell
  rw [ck_n hn (by omega), rd_n _ _ (by omega), h2]
  by_cases hl : E.length = 250
  · rw [if_pos (by rw [hl]; rfl)]
    refine ⟨A, rfl, mEx_refl _ _, ?_, otN_refl _ _⟩
    have : adE 250 E (Int32.ofNat (rNm r), x, c, 0) = E := by unfold adE; rw [if_neg (by omega)]
    rw [this]; exact ⟨h1, h2, h3⟩
  · rw [if_neg (show ¬ Int32.ofNat E.length = 250 from fun z => hl ((jI_inj (b := 250) (by omega) (by omega)).mp z)), ck_n hn (by omega), lt_d, show (250 : Int32) = Int32.ofNat 250 from rfl, jI_mul, jI_add, m_nameOf hr, bd_s]
    have hb : 250 * n + E.length < 1000 := by omega
    simp only [ck_n hb (show 250 * n + E.length < 2147483648 by omega), lt_d]
    rw [ck_n hn (by omega), ck_n hn (by omega)]
    refine ⟨_, rfl, mEx_trans (mEx_wr (by unfold wNw; omega) _ _) (mEx_trans (mEx_wr (by unfold wNw; omega) _ _) (mEx_trans (mEx_wr (by unfold wNw; omega) _ _) (mEx_wr (by unfold wNw; omega) _ _))), ?_, fun n' hne => ?_⟩
    · have hE : adE 250 E (Int32.ofNat (rNm r), x, c, 0) = E ++ [(Int32.ofNat (rNm r), x, c, 0)] := by unfold adE; rw [if_pos (by omega)]
      rw [hE]
      refine ⟨by simp; omega, ?_, fun i hi => ?_⟩
      · rw [wr_s _ _ (by omega), upd_s, rd_n _ _ (by omega), wr_o _ _ _ (by decide), wr_o _ _ _ (by decide), wr_o _ _ _ (by decide), h2, show (1 : Int32) = Int32.ofNat 1 from rfl, jI_add, List.length_append, List.length_singleton]
      · rw [wr_o _ _ _ (show (28 : Nat) ≠ 27 by decide), wr_o _ _ _ (show (28 : Nat) ≠ 30 by decide), wr_o _ _ _ (show (28 : Nat) ≠ 29 by decide), wr_s _ _ (by omega), wr_o _ _ _ (show (29 : Nat) ≠ 27 by decide), wr_o _ _ _ (show (29 : Nat) ≠ 30 by decide), wr_s _ _ (by omega), wr_o _ _ _ (show (29 : Nat) ≠ 28 by decide), wr_o _ _ _ (show (30 : Nat) ≠ 27 by decide), wr_s _ _ (by omega), wr_o _ _ _ (show (30 : Nat) ≠ 29 by decide), wr_o _ _ _ (show (30 : Nat) ≠ 28 by decide)]
        by_cases hie : i < E.length
        · have e1 : (E ++ [(Int32.ofNat (rNm r), x, c, (0 : Int32))])[i] = E[i] := List.getElem_append_left hie
          rw [e1, upd_o _ _ (by omega), upd_o _ _ (by omega), upd_o _ _ (by omega)]
          exact h3 i hie
        · have hi2 : i = E.length := by rw [List.length_append, List.length_singleton] at hi; omega
          subst hi2
          have e1 : (E ++ [(Int32.ofNat (rNm r), x, c, (0 : Int32))])[E.length] = (Int32.ofNat (rNm r), x, c, 0) := by rw [List.getElem_append_right (Nat.le_refl _)]; simp
          rw [e1, upd_s, upd_s, upd_s]
          exact ⟨rfl, rfl, rfl⟩
    · refine ⟨by rw [wr_s _ _ (by omega), upd_o _ _ hne, wr_o _ _ _ (by decide), wr_o _ _ _ (by decide), wr_o _ _ _ (by decide)], fun k hk => ⟨?_, ?_, ?_⟩⟩
      · rw [wr_o _ _ _ (by decide), wr_o _ _ _ (by decide), wr_o _ _ _ (by decide), wr_s _ _ (by omega), upd_o _ _ (by omega)]
      · rw [wr_o _ _ _ (by decide), wr_o _ _ _ (by decide), wr_s _ _ (by omega), upd_o _ _ (by omega), wr_o _ _ _ (by decide)]
      · rw [wr_o _ _ _ (by decide), wr_s _ _ (by omega), upd_o _ _ (by omega), wr_o _ _ _ (by decide), wr_o _ _ _ (by decide)]
