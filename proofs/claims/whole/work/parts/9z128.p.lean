-- part 128: the reference starts a frame, whole
section V
variable {M M' A B : mSt} {sl : Nat → Int32} {mkO : Nat → Option Nat} {x0 n m k w : Nat} {l : List Nat}
theorem m_start (ht : tOk M) (hw : w < 60) (h42 : M.1 42 = Int32.ofNat w) (hn : n < 4) (hm : m < 4) (hnm : m ≠ n) (h2 : lAt M n l) (h23 : M.2 23 n = Int32.ofNat l.length) (hinj : kInj M l) {b sx st : Nat → Nat} (hb : ∀ q, q < 4 → b q = max (sx q) (st q) ∧ sx q ≤ 250 ∧ st q ≤ 250 ∧ M.2 21 (16 * n + 4 * m + q) = Int32.ofNat (sx q) ∧ M.2 22 (16 * n + 4 * m + q) = Int32.ofNat (st q)) {ask : Int32} (hask : ask = 0 ∨ ask = 1) {R : List Nat} (hR : R = if ask = 0 then (srt (rK M) (l.filter (elg b))).take 8 else []) :
    ∃ M2 G, fm_start M (Int32.ofNat n) (Int32.ofNat m) ask = some M2 ∧ mEx (fun k => k = 22 ∨ k = 42 ∨ k = 46) M M2 ∧ M2.1 42 = Int32.ofNat (w + 1) ∧ (∀ q, q < 640 → M2.2 46 (640 * w + q) = G q) ∧ (∀ q, (q < 640 * w ∨ 640 * w + 640 ≤ q) → M2.2 46 q = M.2 46 q) ∧ hdG M n m ask G ∧ rwG G R ∧ (∀ c, c < 16 → M2.2 22 (16 * n + c) = snU m (fun c => M.2 22 (16 * n + c)) R c) ∧ ∀ q, (q < 16 * n ∨ 16 * n + 16 ≤ q) → M2.2 22 q = M.2 22 q := by
  have hll := h2.2.1
  unfold fm_start
  rw [h42, show (640 : Int32) * Int32.ofNat w = Int32.ofNat (640 * w) from jI_mul 640 w, lt_d, show Int32.ofNat w + 1 = Int32.ofNat (w + 1) from jI_add _ 1, lt_d]
  have hB0 : rB M (pu M 42 (Int32.ofNat (w + 1))) w (fun q => M.2 46 (640 * w + q)) := ⟨mEx_pu (Or.inl rfl) _, pu_s _ _ _, fun _ _ => rfl, fun _ _ => rfl⟩
  generalize pu M 42 (Int32.ofNat (w + 1)) = B0 at hB0
  -- cleared
  have clr : ∀ (j i fu : Nat) (B : mSt) (G : Nat → Int32), i + j = 640 → j < fu → rB M B w G → (∀ q, q < i → G q = 0) → ∃ B' G', fm_start_23 fu B (Int32.ofNat n) (Int32.ofNat m) ask (Int32.ofNat (640 * w)) (Int32.ofNat i) = fm_start_83 B' (Int32.ofNat n) (Int32.ofNat m) ask (Int32.ofNat (640 * w)) (Int32.ofNat (640 * w + 2)) ask ∧ rB M B' w G' ∧ G' 0 = Int32.ofNat n ∧ G' 1 = Int32.ofNat m ∧ ∀ q, 2 ≤ q → q < 640 → G' q = 0 := by
    intro j
    induction j with
    | zero =>
      intro i fu B G hi hf hB hG
      obtain ⟨fu, rfl⟩ : ∃ q, fu = q + 1 := ⟨fu - 1, by omega⟩
      have e : i = 640 := by omega
      subst e
      rw [fm_start_23, if_pos (show (640 : Int32) ≤ Int32.ofNat 640 by decide), ck_n (by omega) (by omega), lt_d, show Int32.ofNat (640 * w) + 1 = Int32.ofNat (640 * w + 1) from jI_add _ 1, ck_n (by omega) (by omega), lt_d, show Int32.ofNat (640 * w) + 2 = Int32.ofNat (640 * w + 2) from jI_add _ 2]
      have h1 := rB_w (rB_w hB hw (i := 0) (by omega) (Int32.ofNat n)) hw (i := 1) (by omega) (Int32.ofNat m)
      rw [Nat.add_zero] at h1
      refine ⟨_, _, ?_, h1, ?_, upd_s _ _ _, fun q h1 h2 => ?_⟩
      · rcases hask with e | e
        · rw [e, if_pos rfl]
        · rw [e, if_neg n10]
      · rw [upd_o _ _ (by decide), upd_s]
      · rw [upd_o _ _ (by omega), upd_o _ _ (by omega)]; exact hG q h2
    | succ j ih =>
      intro i fu B G hi hf hB hG
      obtain ⟨fu, rfl⟩ : ∃ q, fu = q + 1 := ⟨fu - 1, by omega⟩
      rw [fm_start_23, if_neg (jK 640 640 rfl (by omega) (by decide)), jI_add, ck_n (by omega) (by omega), lt_d, lt_d, show Int32.ofNat i + 1 = Int32.ofNat (i + 1) from jI_add _ 1]
      exact ih (i + 1) fu _ _ (by omega) (by omega) (rB_w hB hw (i := i) (by omega) 0) (fun q hq => by
        by_cases e : q = i
        · subst e; exact upd_s _ _ _
        · rw [upd_o _ _ e]; exact hG q (by omega))
  obtain ⟨B1, G1, c1, c2, c3, c4, c5⟩ := clr 640 0 mFU B0 _ rfl (by decide) hB0 (fun q hq => absurd hq (by omega))
  have c1' : fm_start_23 mFU B0 (Int32.ofNat n) (Int32.ofNat m) ask (Int32.ofNat (640 * w)) 0 = _ := c1
  rw [c1']
  unfold fm_start_83
  rw [ck_n (by omega) (by omega), lt_d]
  have hB2 := rB_w c2 hw (i := 2) (by omega) ask
  -- what is known
  have vec : ∀ (j i fu : Nat) (B : mSt) (G : Nat → Int32), i + j = 4 → j < fu → rB M B w G → (∀ q, q < i → G (4 + q) = M.2 20 (4 * n + q)) → ∃ B' G', fm_start_87 fu B (Int32.ofNat n) (Int32.ofNat m) ask (Int32.ofNat (640 * w)) (Int32.ofNat i) = fm_start_121 mFU B' (Int32.ofNat n) (Int32.ofNat m) ask (Int32.ofNat (640 * w)) 0 ∧ rB M B' w G' ∧ (∀ q, q < 4 → G' (4 + q) = M.2 20 (4 * n + q)) ∧ ∀ q, (q < 4 ∨ 8 ≤ q) → G' q = G q := by
    intro j
    induction j with
    | zero =>
      intro i fu B G hi hf hB hG
      obtain ⟨fu, rfl⟩ : ∃ q, fu = q + 1 := ⟨fu - 1, by omega⟩
      have e : i = 4 := by omega
      subst e
      rw [fm_start_87, if_pos (show (4 : Int32) ≤ Int32.ofNat 4 by decide)]
      exact ⟨B, G, rfl, hB, hG, fun _ _ => rfl⟩
    | succ j ih =>
      intro i fu B G hi hf hB hG
      obtain ⟨fu, rfl⟩ : ∃ q, fu = q + 1 := ⟨fu - 1, by omega⟩
      have hkn : fm_knownOf B (Int32.ofNat n) (Int32.ofNat i) = some (M.2 20 (4 * n + i)) := by
        unfold fm_knownOf
        rw [show (4 : Int32) = Int32.ofNat 4 from rfl, jI_mul, jI_add, ck_n (by omega) (by omega), rd_n _ _ (by omega), (rB_o hB (j := 20) (by decide)).2]
      rw [fm_start_87, if_neg (jK 4 4 rfl (by omega) (by decide)), hkn, bd_s, show Int32.ofNat (640 * w) + 4 + Int32.ofNat i = Int32.ofNat (640 * w + (4 + i)) from by rw [show (4 : Int32) = Int32.ofNat 4 from rfl, jI_add, jI_add, Nat.add_assoc], ck_n (by omega) (by omega), lt_d, lt_d, show Int32.ofNat i + 1 = Int32.ofNat (i + 1) from jI_add _ 1]
      obtain ⟨B', G', x1, x2, x3, x4⟩ := ih (i + 1) fu _ _ (by omega) (by omega) (rB_w hB hw (i := 4 + i) (by omega) (M.2 20 (4 * n + i))) (fun q hq => by
        by_cases e : q = i
        · subst e; exact upd_s _ _ _
        · rw [upd_o _ _ (by omega)]; exact hG q (by omega))
      exact ⟨B', G', x1, x2, x3, fun q hq => by rw [x4 q hq, upd_o _ _ (by omega)]⟩
  obtain ⟨B3, G3, d1, d2, d3, d4⟩ := vec 4 0 mFU _ _ rfl (by decide) hB2 (fun q hq => absurd hq (by omega))
  have d1' : fm_start_87 mFU (wr B1 46 (Int32.ofNat (640 * w + 2)) ask) (Int32.ofNat n) (Int32.ofNat m) ask (Int32.ofNat (640 * w)) 0 = _ := d1
  rw [d1']
  -- the cursors
  have cur : ∀ (j i fu : Nat) (B : mSt) (G : Nat → Int32), i + j = 16 → j < fu → rB M B w G → (∀ c, c < i → G (16 + c) = M.2 31 (16 * n + c)) → ∃ B' G', fm_start_121 fu B (Int32.ofNat n) (Int32.ofNat m) ask (Int32.ofNat (640 * w)) (Int32.ofNat i) = (if ask = 0 then fm_start_167 mFU B' (Int32.ofNat n) (Int32.ofNat m) (Int32.ofNat (640 * w)) 0 else some B') ∧ rB M B' w G' ∧ (∀ c, c < 16 → G' (16 + c) = M.2 31 (16 * n + c)) ∧ ∀ q, (q < 16 ∨ 32 ≤ q) → G' q = G q := by
    intro j
    induction j with
    | zero =>
      intro i fu B G hi hf hB hG
      obtain ⟨fu, rfl⟩ : ∃ q, fu = q + 1 := ⟨fu - 1, by omega⟩
      have e : i = 16 := by omega
      subst e
      rw [fm_start_121, if_pos (show (16 : Int32) ≤ Int32.ofNat 16 by decide)]
      exact ⟨B, G, rfl, hB, hG, fun _ _ => rfl⟩
    | succ j ih =>
      intro i fu B G hi hf hB hG
      obtain ⟨fu, rfl⟩ : ∃ q, fu = q + 1 := ⟨fu - 1, by omega⟩
      rw [fm_start_121, if_neg (jK 16 16 rfl (by omega) (by decide)), show (16 : Int32) * Int32.ofNat n + Int32.ofNat i = Int32.ofNat (16 * n + i) from by rw [show (16 : Int32) = Int32.ofNat 16 from rfl, jI_mul, jI_add], ck_n (by omega) (by omega), rd_n _ _ (by omega), (rB_o hB (j := 31) (by decide)).2, show Int32.ofNat (640 * w) + 16 + Int32.ofNat i = Int32.ofNat (640 * w + (16 + i)) from by rw [show (16 : Int32) = Int32.ofNat 16 from rfl, jI_add, jI_add, Nat.add_assoc], ck_n (by omega) (by omega), lt_d, lt_d, show Int32.ofNat i + 1 = Int32.ofNat (i + 1) from jI_add _ 1]
      obtain ⟨B', G', x1, x2, x3, x4⟩ := ih (i + 1) fu _ _ (by omega) (by omega) (rB_w hB hw (i := 16 + i) (by omega) (M.2 31 (16 * n + i))) (fun q hq => by
        by_cases e : q = i
        · subst e; exact upd_s _ _ _
        · rw [upd_o _ _ (by omega)]; exact hG q (by omega))
      exact ⟨B', G', x1, x2, x3, fun q hq => by rw [x4 q hq, upd_o _ _ (by omega)]⟩
  obtain ⟨B4, G4, e1, e2, e3, e4⟩ := cur 16 0 mFU _ _ rfl (by decide) d2 (fun q hq => absurd hq (by omega))
  have e1' : fm_start_121 mFU B3 (Int32.ofNat n) (Int32.ofNat m) ask (Int32.ofNat (640 * w)) 0 = _ := e1
  rw [e1']
  have g4 : ∀ q, (q < 4 ∨ (8 ≤ q ∧ q < 16) ∨ 32 ≤ q) → G4 q = upd G1 2 ask q := fun q hq => by rw [e4 q (by omega), d4 q (by omega)]
  have hhd : hdG M n m ask G4 := by
    refine ⟨by rw [g4 0 (by omega), upd_o _ _ (by decide)]; exact c3, by rw [g4 1 (by omega), upd_o _ _ (by decide)]; exact c4, by rw [g4 2 (by omega), upd_s], fun q hq => by rw [e4 _ (by omega)]; exact d3 q hq, e3, fun i h1 h2 => by rw [g4 i (by omega), upd_o _ _ (by omega)]; exact c5 i (by omega) h2⟩
  have hr0 : rwG G4 [] := ⟨by rw [g4 3 (by omega), upd_o _ _ (by decide)]; exact c5 3 (by decide) (by decide), fun i hi => absurd hi (by simp)⟩
  rcases hask with ea | ea
  · rw [if_pos ea] at hR ⊢
    obtain ⟨B5, G5, f1, f2, f3, f4⟩ := m_start167 ht hw hn hm hnm h2 h23 hinj hb l.length 0 mFU B4 G4 (by omega) (Nat.lt_of_le_of_lt hll (by decide)) e2 hr0
    have f1' : fm_start_167 mFU B4 (Int32.ofNat n) (Int32.ofNat m) (Int32.ofNat (640 * w)) 0 = _ := f1
    rw [f1']
    rw [← hR] at f3
    have hR1 : ∀ x ∈ R, x < 1000 := fun x hx => by
      rw [hR] at hx
      have h3 := (perm_srt _ _).mem_iff.mp (List.mem_of_mem_take hx)
      obtain ⟨q, hq1, hq2⟩ := List.mem_iff_getElem.mp (List.mem_filter.mp h3).1
      rw [← hq2]; exact (h2.2.2 q hq1).2
    obtain ⟨B6, h1, h2', h3, h4⟩ := m_start242 hw hn hm hR1 (by rw [hR, List.length_take]; omega) f2 f3
    rw [h1]
    have o6 : ∀ k, k ≠ 22 → B6.1 k = B5.1 k ∧ B6.2 k = B5.2 k := fun k hk => h2' k hk
    refine ⟨B6, G5, rfl, mEx_trans (mEx_mono f2.1 (fun k hk => Or.inr hk)) (mEx_mono h2' (fun k hk => Or.inl hk)), by rw [(o6 42 (by decide)).1]; exact f2.2.1, fun q hq => by rw [(o6 46 (by decide)).2]; exact f2.2.2.1 q hq, fun q hq => by rw [(o6 46 (by decide)).2]; exact f2.2.2.2 q hq, ?_, f3, h3, h4⟩
    obtain ⟨y1, y2, y3, y4, y5, y6⟩ := hhd
    exact ⟨by rw [f4 0 (by decide) (by omega)]; exact y1, by rw [f4 1 (by decide) (by omega)]; exact y2, by rw [f4 2 (by decide) (by omega)]; exact y3, fun q hq => by rw [f4 _ (by omega) (by omega)]; exact y4 q hq, fun c hc => by rw [f4 _ (by omega) (by omega)]; exact y5 c hc, fun i h1 h2 => by rw [f4 i (by omega) (by omega)]; exact y6 i h1 h2⟩
  · have ea' : ¬ ask = 0 := by rw [ea]; decide
    rw [if_neg ea'] at hR ⊢
    subst hR
    exact ⟨B4, G4, rfl, mEx_mono e2.1 (fun k hk => Or.inr hk), e2.2.1, e2.2.2.1, e2.2.2.2, hhd, hr0, fun c hc => by rw [(rB_o e2 (j := 22) (by decide)).2]; rfl, fun q _ => by rw [(rB_o e2 (j := 22) (by decide)).2]⟩
end V
