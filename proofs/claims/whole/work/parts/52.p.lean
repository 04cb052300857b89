-- part 52: the class's glance
/-- what a glance at the subject t shows behind the rows u -/
def sgt (M : mSt) (mkO : Nat → Option Nat) (sl : Nat → Int32) (u : List Nat) (t i : Nat) : Int32 :=
  if M.2 9 t = 0 then (if i = 0 then b2 (thN M u (Int32.ofNat (rNm t)) = true) else 0)
  else if M.2 9 t = 12 then (if i = 0 then b2 (thN M u (M.2 10 t) = true) else 0)
  else if M.2 9 t = 1 then (if i = 0 then ltV M u (M.2 10 t) (M.2 11 t) else 0)
  else if M.2 9 t = 2 then (if i = 0 then Int32.ofNat (srt (rK M) (u.filter (svQ M u (M.2 10 t) (M.2 11 t)))).length else oV M (srt (rK M) (u.filter (svQ M u (M.2 10 t) (M.2 11 t))))[i - 1]?)
  else if M.2 9 t = 3 then (if i = 0 then smB M u (M.2 10 t) (M.2 11 t) else 0)
  else if M.2 9 t = 4 ∨ M.2 9 t = 5 ∨ M.2 9 t = 6 then (if i < 4 then shB M u (M.2 10 t) (M.2 11 t) i else 0)
  else if M.2 9 t = 7 ∨ M.2 9 t = 8 then (if i = 0 then oI (stB M u (M.2 10 t) (M.2 11 t) (M.2 12 t).toNatClampNeg) else 0)
  else if M.2 9 t = 9 ∨ M.2 9 t = 10 then (if i = 0 then b2 (st M u (inO9 M t) = true) else 0)
  else if M.2 9 t = 11 then pI (paL M mkO sl (mvL M u)) i
  else if M.2 9 t = 15 ∨ M.2 9 t = 16 then (if i = 0 then oI (kyC M u (M.2 10 t) (M.2 11 t) (M.2 12 t).toNatClampNeg) else if i = 1 then oW M (kyC M u (M.2 10 t) (M.2 11 t) (M.2 12 t).toNatClampNeg) else 0)
  else 0
theorem kI_cWi (S : cSt) (a i : Nat) (x : Int32) : kI (cWi S a i x) a = upd (kI S a) i x := by rw [cWi_sI, kI_sI]
theorem cEq_cWi {W : Nat → Prop} {S : cSt} {p i : Nat} (x : Int32) (h : W p) : cEq W S (cWi S p i x) := by rw [cWi_sI]; exact cEq_sI _ h
theorem cEq_cWo {W : Nat → Prop} {S : cSt} {p i : Nat} (x : Option Nat) (h : W p) : cEq W S (cWo S p i x) := by rw [cWo_sO]; exact cEq_sO _ h
theorem cEq_cCp {W : Nat → Prop} {S : cSt} {a sp b dp n : Nat} (h : W b) : cEq W S (cCp S a sp b dp n) :=
  ⟨fun _ => rfl, fun _ => rfl, rfl, fun _ => rfl, fun c hc => ⟨rfl, rfl, kI_sIo S _ (fun e => hc (e ▸ h)), rfl⟩⟩
theorem kI_cCp (S : cSt) (a sp b dp n : Nat) : kI (cCp S a sp b dp n) b = va_cpy (kI S a) (kI S b) sp dp n := kI_sI S b _
section V
variable {M : mSt} {ra : Nat → Nat} {sl : Nat → Int32} {mkO : Nat → Option Nat} {S S' : cSt} {bk la va ua up vb : Nat} {l : List Nat} {W : Nat → Prop}
/-- the part of a row -/
theorem row_pt (hA : rA M mkO sl) {t : Nat} (ht : mde M t) (hs : ruS (M.2 9 t) ≠ 0) : ∃ j m kd p, ptO M mkO j m kd p (ruS (M.2 9 t)) ∧ M.2 10 t = Int32.ofNat (rNm m) ∧ M.2 11 t = Int32.ofNat p ∧ chF M sl t = Int32.ofNat (8 * j + p) ∧ sl t = Int32.ofNat j ∧ j < 48 ∧ p < 6 ∧ mde M m := by
  have hru := (ru_of hA ht).2.2.2.2.2.2.2
  rcases chF_cases hA ht with ⟨h1, h⟩ | ⟨h1, h⟩ | ⟨j, m, kd, a1, a2, a3, a4, a5, a6, a7, a8, h⟩
  · exfalso
    refine hs (hru.mpr ?_)
    rcases h1 with h | h | h
    · exact Or.inl h
    · exact Or.inr (Or.inr (Or.inr (Or.inl h)))
    · exact Or.inr (Or.inr (Or.inr (Or.inr (Or.inl h))))
  · exact absurd (hru.mpr (Or.inr (Or.inl h1))) hs
  · rcases h with ⟨b1, b2', h⟩ | ⟨b1, b2', h⟩ | ⟨b1, p, p1, p2, p3, h⟩
    · exact absurd b2' hs
    · exact absurd b2' hs
    · exact ⟨j, m, kd, p, ⟨a3, a6, a2, p1, p3, b1⟩, a7, p2, h, a8, a1, p1, a4⟩
theorem mk_all (hA : rA M mkO sl) : ∀ r, r < 1000 → mde M r → M.2 9 r = 0 → ∃ j, j < 48 ∧ mkO j = some r := fun r _ hm h0 => by
  obtain ⟨⟨j, j1, j2, _⟩, _⟩ := (hA.1 r hm).2.2.2.2.1 h0
  exact ⟨j, j1, j2⟩
/-- a number written into the sight -/
theorem gl_w {S2 : cSt} {p i0 : Nat} (e : cEq W S S2) (hp : W p) (hk : kK S p = 20) (hl : kL S p = 48) (hi : i0 < 48) (x : Int32) : cEq W S (cWi S2 p i0 x) ∧ (∀ i, kI (cWi S2 p i0 x) p i = if i = i0 then x else kI S2 p i) ∧ ∀ {K : Option cSt}, ckk S2 p 20 (ck (Int32.ofNat i0) (kL S2 p) K) = K := by
  refine ⟨cEq_trans e (cEq_cWi x hp), fun i => ?_, fun {K} => ?_⟩
  · rw [kI_cWi]; rfl
  · rw [ckk_y ((e.1 p).trans hk), e.2.1, hl, ck_n hi (by omega)]
theorem k_glance (hA : rA M mkO sl) (hc : cl M l) (hQ : cQ M ra sl (chF M sl) (mde M) mkO S bk la va ua up vb l) {p t : Nat} (hk : kK S p = 20) (hl : kL S p = 48) (hp : bk + 5 ≤ p ∧ p < bk + 128 ∧ (p < la ∨ la + 8 ≤ p) ∧ p ≠ ua ∧ p ≠ va) (hpv : p < vb ∨ vb + 5 ≤ p) (ht : mde M t) : ∃ S', fk_10_glance S va (ra t) p = some S' ∧ cEq (fun a => inV vb a ∨ a = p) S S' ∧ ∀ i, i < 48 → kI S' p i = sgt M mkO sl (l.take up) t i := by
  obtain ⟨f0, e0, h0⟩ := k_fill hk hl (by decide) 0
  have hQ1 : cQ M ra sl (chF M sl) (mde M) mkO (sI S p f0) bk la va ua up vb l := cQ_w (W := fun a => a = p) hQ (cEq_sI f0 rfl) (fun a ha => by subst ha; exact hp)
  obtain ⟨-, k9, ⟨k0, k2, k3, k4, k5, -⟩, -, k1, k13, -⟩ := hQ1.1.2.2.1 t ht.1 ht
  have eS : cEq (fun a => inV vb a ∨ a = p) S (sI S p f0) := cEq_sI f0 (Or.inr rfl)
  have z0 : ∀ i, i < 48 → kI (sI S p f0) p i = 0 := fun i hi => by rw [kI_sI]; exact h0 i hi
  have v1 := hQ1.2.2.1.1.1
  have hpi : ¬ inV vb p := fun q => by unfold inV at q; omega
  have up2 : ∀ {S2 : cSt}, cEq (inV vb) (sI S p f0) S2 → cEq (fun a => inV vb a ∨ a = p) S S2 ∧ ∀ i, i < 48 → kI S2 p i = 0 := fun {S2} e => ⟨cEq_trans eS (cEq_mono e (fun a ha => Or.inl ha)), fun i hi => by rw [(e.2.2.2.2 p hpi).2.2.1]; exact z0 i hi⟩
  unfold fk_10_glance
  rw [e0, bd_s, ckk_y k9, k0]
  obtain ⟨s, hs, es⟩ := (hA.1 t ht).1
  have hru := ru_of hA ht
  -- one number at place 0
  have one : ∀ {S2 : cSt} (x : Int32), cEq (inV vb) (sI S p f0) S2 → (∀ i, i < 48 → (if i = 0 then x else 0) = sgt M mkO sl (l.take up) t i) → cEq (fun a => inV vb a ∨ a = p) S (cWi S2 p 0 x) ∧ (∀ i, i < 48 → kI (cWi S2 p 0 x) p i = sgt M mkO sl (l.take up) t i) ∧ (∀ {K : Option cSt}, ckk S2 p 20 (ck (0 : Int32) (kL S2 p) K) = K) := fun {S2} x e hx => by
    obtain ⟨q1, q2⟩ := up2 e
    obtain ⟨w1, w2, w3⟩ := gl_w (i0 := 0) q1 (Or.inr rfl) hk hl (by decide) x
    refine ⟨w1, fun i hi => ?_, w3⟩
    rw [w2, q2 i hi]; exact hx i hi
  have c0 : cEq (inV vb) (sI S p f0) (sI S p f0) := cEq_refl _ _
  by_cases s0 : M.2 9 t = 0
  · rw [if_pos s0]
    unfold fk_10_glance_76 fk_10_glance_94 fk_10_glance_231
    obtain ⟨⟨j, j1, j2, j3⟩, -⟩ := (hA.1 t ht).2.2.2.2.1 s0
    rw [ckk_y k9, ckk_y v1, k1, j3, k_isThere hQ1.1 hQ1.2.1 hQ1.2.2.1 hQ1.2.2.2.1 j1, bd_s, lk_there hA hc j2]
    have hg : ∀ x : Int32, x = b2 (thN M (l.take up) (Int32.ofNat (rNm t)) = true) → ∀ i, i < 48 → (if i = 0 then x else 0) = sgt M mkO sl (l.take up) t i := fun x hx i _ => by
      unfold sgt
      rw [if_pos s0, hx]
    cases hb : thN M (l.take up) (Int32.ofNat (rNm t))
    · obtain ⟨w1, w2, w3⟩ := one 0 c0 (hg 0 (by rw [hb]; exact (b2_f (by simp)).symm))
      rw [if_pos bFn, w3]
      exact ⟨_, rfl, w1, w2⟩
    · obtain ⟨w1, w2, w3⟩ := one 1 c0 (hg 1 (by rw [hb]; exact (b2_t rfl).symm))
      rw [if_neg bTn, w3]
      exact ⟨_, rfl, w1, w2⟩
  rw [if_neg s0]
  by_cases s1 : M.2 9 t = 1
  · rw [if_pos s1]
    obtain ⟨j, m, kd, pp, b1, b2', b3, b4, b5, b6, b7, b8⟩ := row_pt hA ht (by rw [hru.1.mpr s1]; decide)
    rw [hru.1.mpr s1] at b1
    obtain ⟨w1, w2, w3⟩ := one (ltV M (l.take up) (M.2 10 t) (M.2 11 t)) c0 (fun i _ => by unfold sgt; rw [if_neg s0, if_neg (show ¬ M.2 9 t = 12 by rw [s1]; decide), if_pos s1])
    rw [ckk_y k9, ckk_y v1, k13, b4, k_latestOf (ptO_c hA b1) hQ1.1 hQ1.2.1 hQ1.2.2.1 hQ1.2.2.2.1, bd_s, lk_L hA hc b1, ← b2', ← b3, w3]
    exact ⟨_, rfl, w1, w2⟩
  rw [if_neg s1]
  by_cases s2 : M.2 9 t = 2
  · rw [if_pos s2]
    obtain ⟨j, m, kd, pp, b1, b2', b3, b4, b5, b6, b7, b8⟩ := row_pt hA ht (by rw [hru.2.1.mpr s2]; decide)
    rw [hru.2.1.mpr s2] at b1
    have h4 := sv_le hA hc up (8 * j + pp)
    obtain ⟨f, g, e1, hg⟩ := k_findSeveral (ptO_c hA b1) hQ1 h4
    have eL := lk_S hA hc b1 up
    rw [← b2', ← b3] at eL
    rw [eL] at e1 hg h4
    generalize hLL : srt (rK M) ((l.take up).filter (svQ M (l.take up) (M.2 10 t) (M.2 11 t))) = L at e1 hg h4
    have e2 : cEq (inV vb) (sI S p f0) (sO (sI (sI S p f0) (vb + 1) f) vb g) := cEq_trans (cEq_sI f (show inV vb (vb + 1) by unfold inV; omega)) (cEq_sO g (show inV vb vb by unfold inV; omega))
    obtain ⟨q1, q2⟩ := up2 e2
    rw [ckk_y k9, ckk_y v1, k13, b4, e1, bd_s, lt_d, lt_d]
    show ∃ S', ckk (sO (sI (sI S p f0) (vb + 1) f) vb g) p 20 _ = some S' ∧ _
    generalize hS2 : sO (sI (sI S p f0) (vb + 1) f) vb g = S2 at q1 q2 e2
    obtain ⟨w1, w2, w3⟩ := gl_w (i0 := 0) q1 (Or.inr rfl) hk hl (by decide) (Int32.ofNat L.length)
    show ∃ S', ckk S2 p 20 (ck (0 : Int32) (kL S2 p) _) = some S' ∧ _
    have w3' : ∀ {K : Option cSt}, ckk S2 p 20 (ck (0 : Int32) (kL S2 p) K) = K := w3
    rw [w3', lt_d]
    have hQ2 := cQ_eq hQ1 e2
    have hgS : ∀ i (h : i < L.length), kO S2 vb i = some (ra L[i]) := fun i h => by rw [← hS2, kO_sO]; exact hg i h
    have hLm : ∀ i (h : i < L.length), L[i] < 1000 ∧ mde M L[i] := fun i h => by
      have h1 : L[i] ∈ srt (rK M) ((l.take up).filter (svQ M (l.take up) (M.2 10 t) (M.2 11 t))) := by rw [hLL]; exact List.getElem_mem h
      rw [mem_srt, List.mem_filter] at h1
      have := mem_u hc h1.1
      exact ⟨this.1, this⟩
    obtain ⟨b, hb, S3, h5, h6, h7⟩ := loopI (σ := Nat → Int32) (β := cSt) (N := L.length) (F := fun n f k => fk_10_glance_125 n (sI S2 p f) va p (Int32.ofNat k)) (Q := fun b => ∃ S3, b = S3 ∧ cEq (fun a => inV vb a ∨ a = p) S S3 ∧ ∀ i, i < 48 → kI S3 p i = sgt M mkO sl (l.take up) t i)
      (fun k f => f 0 = Int32.ofNat L.length ∧ ∀ i, i < 48 → 0 < i → f i = if i ≤ k then (oV M L[i - 1]?) else 0)
      (fun n f h => by
        refine ⟨sI S2 p f, ?_, _, rfl, cEq_trans q1 (cEq_sI f (Or.inr rfl)), fun i hi => ?_⟩
        · show fk_10_glance_125 (n + 1) (sI S2 p f) va p (Int32.ofNat L.length) = _
          have k20 : kK (sI S2 p f) p = 20 := (q1.1 p).trans hk
          have l48 : kL (sI S2 p f) p = 48 := (q1.2.1 p).trans hl
          rw [fk_10_glance_125, ckk_y k20, l48]
          refine (ck_n (i := 0) (by decide) (by decide)).trans ?_
          rw [kI_sI]
          show (if f 0 ≤ Int32.ofNat L.length then _ else _) = _
          rw [if_pos (by rw [h.1]; exact Int32.le_refl _)]; rfl
        · rw [kI_sI]
          unfold sgt
          rw [if_neg s0, if_neg (show ¬ M.2 9 t = 12 by rw [s2]; decide), if_neg s1, if_pos s2, hLL]
          by_cases hi0 : i = 0
          · rw [if_pos hi0, hi0]; exact h.1
          · rw [if_neg hi0, h.2 i hi (by omega)]
            by_cases hik : i ≤ L.length
            · rw [if_pos hik]
            · rw [if_neg hik, List.getElem?_eq_none (by omega)]; rfl)
      (fun n f k hk1 h => Or.inl (by
        refine ⟨upd f (k + 1) (M.2 12 L[k]), ⟨by rw [upd_o _ _ (by omega)]; exact h.1, fun i hi hi0 => ?_⟩, ?_⟩
        · by_cases e : i = k + 1
          · subst e
            rw [upd_s, if_pos (Nat.le_refl _), Nat.add_sub_cancel, List.getElem?_eq_getElem hk1]; rfl
          · rw [upd_o _ _ e, h.2 i hi hi0]
            by_cases h8 : i ≤ k
            · rw [if_pos h8, if_pos (by omega)]
            · rw [if_neg h8, if_neg (by omega)]
        · show fk_10_glance_125 (n + 1) (sI S2 p f) va p (Int32.ofNat k) = _
          have k20 : kK (sI S2 p f) p = 20 := (q1.1 p).trans hk
          have l48 : kL (sI S2 p f) p = 48 := (q1.2.1 p).trans hl
          rw [fk_10_glance_125, ckk_y k20, l48]
          refine (ck_n (i := 0) (by decide) (by decide)).trans ?_
          rw [kI_sI]
          show (if f 0 ≤ Int32.ofNat k then _ else _) = _
          have hvv := hQ2.2.2.1.1.1
          obtain ⟨⟨a0, -⟩, w0, w0', -⟩ := hQ2.2.2.2.2.1
          have x1 : kK (sI S2 p f) va = 11 := hvv
          have x2 : kR (sI S2 p f) va 0 = some vb := a0
          have x3 : kK (sI S2 p f) vb = 30 := w0
          have x4 : kL (sI S2 p f) vb = 4 := w0'
          have x5 : kO (sI S2 p f) vb k = some (ra L[k]) := hgS k hk1
          obtain ⟨-, y9, ⟨-, -, -, y4, -⟩, -⟩ := hQ2.1.2.2.1 L[k] (hLm k hk1).1 (hLm k hk1).2
          have y9' : kK (sI S2 p f) (ra L[k]) = 9 := y9
          have y4' : kF (sI S2 p f) (ra L[k]) 4 = M.2 12 L[k] := y4
          rw [if_neg (by rw [h.1]; exact fun q => absurd ((jI_le (by omega) (by omega)).mp q) (by omega)), ckk_y x1, x2, bd_s, ckk_y x3, x4, ck_n (by omega) (by omega), lt_d, jI_cl (by omega), x5, bd_s, ckk_y y9', ckk_y k20, show (1 : Int32) = Int32.ofNat 1 from rfl, jI_add, ck_n (by omega) (by omega), lt_d, jI_cl (by omega), wI_sI, y4', lt_d]))
      L.length 0 mFU (upd (kI S2 p) 0 (Int32.ofNat L.length)) (by omega) (Nat.lt_of_le_of_lt h4 (by decide)) ⟨by rw [upd_s], fun i hi hi0 => by rw [upd_o _ _ (by omega), q2 i hi, if_neg (by omega)]⟩
    have hb' : fk_10_glance_125 mFU (sI S2 p (upd (kI S2 p) 0 (Int32.ofNat L.length))) va p (Int32.ofNat 0) = some b := hb
    refine ⟨S3, ?_, h6, h7⟩
    rw [← h5, ← hb', ← cWi_sI]; rfl
  rw [if_neg s2]
  by_cases s3 : M.2 9 t = 3
  · rw [if_pos s3]
    obtain ⟨j, m, kd, pp, b1, b2', b3, b4, b5, b6, b7, b8⟩ := row_pt hA ht (by rw [hru.2.2.1.mpr s3]; decide)
    rw [hru.2.2.1.mpr s3] at b1
    obtain ⟨w1, w2, w3⟩ := one (smB M (l.take up) (M.2 10 t) (M.2 11 t)) c0 (fun i _ => by unfold sgt; rw [if_neg s0, if_neg (show ¬ M.2 9 t = 12 by rw [s3]; decide), if_neg s1, if_neg s2, if_pos s3])
    rw [ckk_y k9, ckk_y v1, k13, b4, k_sumOf (ptO_c hA b1) hQ1.1 hQ1.2.1 hQ1.2.2.1 hQ1.2.2.2.1, bd_s, lk_C hA hc b1, ← b2', ← b3, w3]
    exact ⟨_, rfl, w1, w2⟩
  rw [if_neg s3]
  have n12 : ∀ x : Int32, M.2 9 t = x → x ≠ 12 → ¬ M.2 9 t = 12 := fun x h1 h2 h3 => h2 (h1.symm.trans h3)
  have shr : (M.2 9 t = 4 ∨ M.2 9 t = 5 ∨ M.2 9 t = 6) → ∃ S', fk_10_glance_169 (sI S p f0) va (ra t) p = some S' ∧ cEq (fun a => inV vb a ∨ a = p) S S' ∧ ∀ i, i < 48 → kI S' p i = sgt M mkO sl (l.take up) t i := by
    intro hs4
    have h66 := hru.2.2.2.1.mpr hs4
    obtain ⟨j, m, kd, pp, b1, b2', b3, b4, b5, b6, b7, b8⟩ := row_pt hA ht (by rw [h66]; decide)
    rw [h66] at b1
    obtain ⟨f, e1, hf, -⟩ := k_findShares (ptO_c hA b1) hQ1 (ln_rng hA hc _)
    have e2 : cEq (inV vb) (sI S p f0) (sI (sI S p f0) (vb + 4) f) := cEq_sI f (show inV vb (vb + 4) by unfold inV; omega)
    obtain ⟨q1, q2⟩ := up2 e2
    have hQ2 := cQ_eq hQ1 e2
    obtain ⟨⟨a0, a3, a4, a5, a6⟩, w0, w0', w1, w1', w2, w2', w3, w3', w4, w4'⟩ := hQ2.2.2.2.2.1
    have k20 : kK (sI (sI S p f0) (vb + 4) f) p = 20 := hk
    have l48 : kL (sI (sI S p f0) (vb + 4) f) p = 48 := hl
    unfold fk_10_glance_169 fk_10_glance_231
    rw [ckk_y k9, ckk_y v1, k13, b4, e1, bd_s, ckk_y hQ2.2.2.1.1.1, a6, bd_s, ckk_y w4, ckk_y k20]
    refine ⟨cCp (sI (sI S p f0) (vb + 4) f) (vb + 4) 0 p 0 4, ?_, cEq_trans q1 (cEq_cCp (Or.inr rfl)), fun i hi => ?_⟩
    · rw [w4', l48]
      exact if_pos ⟨⟨by decide, by decide, by decide⟩, by decide, by decide⟩
    · rw [kI_cCp, kI_sI]
      unfold va_cpy sgt
      have n0 := s0
      have m12 : ¬ M.2 9 t = 12 := by rcases hs4 with h | h | h <;> (rw [h]; decide)
      rw [if_neg s0, if_neg m12, if_neg s1, if_neg s2, if_neg s3, if_pos hs4]
      by_cases h4 : i < 4
      · rw [if_pos ⟨by omega, by omega⟩, if_pos h4, show 0 + (i - 0) = i by omega, hf i h4, lk_B hA hc b1, ← b2', ← b3]
      · rw [if_neg (by omega), if_neg h4]; exact q2 i hi
  by_cases s4 : M.2 9 t = 4
  · rw [if_pos s4]; exact shr (Or.inl s4)
  rw [if_neg s4]
  by_cases s5 : M.2 9 t = 5
  · rw [if_pos s5]; exact shr (Or.inr (Or.inl s5))
  rw [if_neg s5]
  by_cases s6 : M.2 9 t = 6
  · rw [if_pos s6]; exact shr (Or.inr (Or.inr s6))
  rw [if_neg s6]
  have n456 : ¬ (M.2 9 t = 4 ∨ M.2 9 t = 5 ∨ M.2 9 t = 6) := fun h => h.elim s4 (fun h => h.elim s5 s6)
  have ent : (M.2 9 t = 7 ∨ M.2 9 t = 8) → ∃ S', fk_10_glance_191 (sI S p f0) va (ra t) p = some S' ∧ cEq (fun a => inV vb a ∨ a = p) S S' ∧ ∀ i, i < 48 → kI S' p i = sgt M mkO sl (l.take up) t i := by
    intro hs7
    have h65 := hru.2.2.2.2.1.mpr hs7
    obtain ⟨j, m, kd, pp, b1, b2', b3, b4, b5, b6, b7, b8⟩ := row_pt hA ht (by rw [h65]; decide)
    rw [h65] at b1
    obtain ⟨S2, e1, e2⟩ := k_enterOf (ptO_c hA b1) hQ1 (ky_rng hA hc b1 (Or.inl rfl)) (M.2 12 t)
    obtain ⟨x, hx, ex⟩ := (hA.1 t ht).2.2.2.2.2.2.2.2.1 (hs7.elim Or.inl (fun h => Or.inr (Or.inl h)))
    have m12 : ¬ M.2 9 t = 12 := by rcases hs7 with h | h <;> (rw [h]; decide)
    unfold fk_10_glance_191 fk_10_glance_213 fk_10_glance_231
    rw [ckk_y k9, ckk_y k9, ckk_y v1, k13, b4, k4, e1, bd_s, lt_d, lt_d]
    rw [if_pos (show 0 ≤ M.2 12 t ∧ M.2 12 t < 64 by rw [ex]; exact ⟨Int32.not_lt.mp (jI_nn (by omega)), (jI_lt (b := 64) (by omega) (by omega)).mpr hx⟩), lk_A hA hc b1, ← b2', ← b3]
    have hg : ∀ x : Int32, x = oI (stB M (l.take up) (M.2 10 t) (M.2 11 t) (M.2 12 t).toNatClampNeg) → ∀ i, i < 48 → (if i = 0 then x else 0) = sgt M mkO sl (l.take up) t i := fun x hx i _ => by
      unfold sgt
      rw [if_neg s0, if_neg m12, if_neg s1, if_neg s2, if_neg s3, if_neg n456, if_pos hs7, hx]
    cases hb : stB M (l.take up) (M.2 10 t) (M.2 11 t) (M.2 12 t).toNatClampNeg with
    | none =>
      obtain ⟨w1, w2, w3⟩ := one 0 e2 (hg 0 (by rw [hb]; rfl))
      refine ⟨_, ?_, w1, w2⟩
      show ckk S2 p 20 (ck (0 : Int32) (kL S2 p) _) = _
      rw [w3]; rfl
    | some q =>
      obtain ⟨w1, w2, w3⟩ := one 1 e2 (hg 1 (by rw [hb]; rfl))
      refine ⟨_, ?_, w1, w2⟩
      show ckk S2 p 20 (ck (0 : Int32) (kL S2 p) _) = _
      rw [w3]; rfl
  by_cases s7 : M.2 9 t = 7
  · rw [if_pos s7]; exact ent (Or.inl s7)
  rw [if_neg s7]
  by_cases s8 : M.2 9 t = 8
  · rw [if_pos s8]; exact ent (Or.inr s8)
  rw [if_neg s8]
  have n78 : ¬ (M.2 9 t = 7 ∨ M.2 9 t = 8) := fun h => h.elim s7 s8
  by_cases s9 : M.2 9 t = 9
  · rw [if_pos s9]
    have h84 := hru.2.2.2.2.2.1.mpr (Or.inl s9)
    obtain ⟨j, m, kd, pp, b1, b2', b3, b4, b5, b6, b7, b8⟩ := row_pt hA ht (by rw [h84]; decide)
    rw [h84] at b1
    have hin : inO9 M t = t := by unfold inO9; rw [if_pos s9]
    have hst := st_vw hA hc b1 up ht ⟨s9, b2', b3⟩
    unfold fk_10_glance_225 fk_10_glanceFurther fk_10_glanceFurther_67 fk_10_glanceFurther_153 fk_10_glance_231
    rw [ckk_y v1, ckk_y k9, k0, if_pos s9, ckk_y v1, k_stands (ptO_c hA b1) hQ1.1 hQ1.2.1 hQ1.2.2.1 hQ1.2.2.2.1 ht.1 ht b4, bd_s]
    have hg : ∀ x : Int32, x = b2 (st M (l.take up) t = true) → ∀ i, i < 48 → (if i = 0 then x else 0) = sgt M mkO sl (l.take up) t i := fun x hx i _ => by
      unfold sgt
      rw [if_neg s0, if_neg (show ¬ M.2 9 t = 12 by rw [s9]; decide), if_neg s1, if_neg s2, if_neg s3, if_neg n456, if_neg n78, if_pos (Or.inl s9), hin, hx]
    by_cases hb : st M (l.take up) t = true
    · obtain ⟨w1, w2, w3⟩ := one 1 c0 (hg 1 (b2_t hb).symm)
      rw [if_neg (by rw [b2_t (hst.mpr hb)]; decide), w3]
      exact ⟨_, rfl, w1, w2⟩
    · obtain ⟨w1, w2, w3⟩ := one 0 c0 (hg 0 (b2_f hb).symm)
      rw [if_pos (b2_f (fun q => hb (hst.mp q))), w3]
      exact ⟨_, rfl, w1, w2⟩
  rw [if_neg s9]
  by_cases s10 : M.2 9 t = 10
  · rw [if_pos s10]
    have h84 := hru.2.2.2.2.2.1.mpr (Or.inr s10)
    obtain ⟨j, m, kd, pp, b1, b2', b3, b4, b5, b6, b7, b8⟩ := row_pt hA ht (by rw [h84]; decide)
    rw [h84] at b1
    obtain ⟨i1, i2, i3, i4, i5⟩ := inO9_of hA ht (Or.inr s10)
    obtain ⟨i6, i7, i8⟩ := i5 s10
    have hst := st_vw hA hc b1 up i1 ⟨i2, by rw [i3, b2'], by rw [i4, b3]⟩
    have hch : chF M sl (inO9 M t) = Int32.ofNat (8 * j + pp) := (chR hA b1 i1).mpr ⟨(ru_of hA i1).2.2.2.2.2.1.mpr (Or.inl i2), by rw [i3, b2'], by rw [i4, b3]⟩
    unfold fk_10_glance_225 fk_10_glanceFurther fk_10_glanceFurther_101 fk_10_glanceFurther_102 fk_10_glanceFurther_153 fk_10_glance_231
    rw [ckk_y v1, ckk_y k9, k0, if_neg s9, if_pos s10, ckk_y v1, hQ1.2.2.1.1.2.1, bd_s, ckk_y k9, ckk_y hQ1.1.1.1, k5, k_rowNamed hQ1.1, bd_s, i6]
    have hro : kO (sI S p f0) (bk + 1) (inO9 M t) = some (ra (inO9 M t)) := (hQ1.1.2.2.1 _ i1.1 i1).1
    show ∃ S', bd (cs (kO (sI S p f0) (bk + 1) (inO9 M t)) _ _) _ = some S' ∧ _
    rw [hro]
    show ∃ S', bd (ckk (sI S p f0) va 11 _) _ = some S' ∧ _
    rw [ckk_y v1, k_stands (ptO_c hA b1) hQ1.1 hQ1.2.1 hQ1.2.2.1 hQ1.2.2.2.1 i1.1 i1 hch, bd_s]
    have hg : ∀ x : Int32, x = b2 (st M (l.take up) (inO9 M t) = true) → ∀ i, i < 48 → (if i = 0 then x else 0) = sgt M mkO sl (l.take up) t i := fun x hx i _ => by
      unfold sgt
      rw [if_neg s0, if_neg (show ¬ M.2 9 t = 12 by rw [s10]; decide), if_neg s1, if_neg s2, if_neg s3, if_neg n456, if_neg n78, if_pos (Or.inr s10), hx]
    by_cases hb : st M (l.take up) (inO9 M t) = true
    · obtain ⟨w1, w2, w3⟩ := one 1 c0 (hg 1 (b2_t hb).symm)
      rw [if_neg (by rw [b2_t (hst.mpr hb)]; decide), w3]
      exact ⟨_, rfl, w1, w2⟩
    · obtain ⟨w1, w2, w3⟩ := one 0 c0 (hg 0 (b2_f hb).symm)
      rw [if_pos (b2_f (fun q => hb (hst.mp q))), w3]
      exact ⟨_, rfl, w1, w2⟩
  rw [if_neg s10]
  have n910 : ¬ (M.2 9 t = 9 ∨ M.2 9 t = 10) := fun h => h.elim s9 s10
  by_cases s11 : M.2 9 t = 11
  · rw [if_pos s11]
    have k20 : kK (sI S p f0) p = 20 := hk
    have l48 : kL (sI S p f0) p = 48 := hl
    obtain ⟨f, e1, hf⟩ := k_findParents hQ1 (mk_all hA) k20 l48 hp (mv_rng hA hc)
    unfold fk_10_glance_231
    rw [ckk_y v1, e1, bd_s]
    refine ⟨_, rfl, cEq_trans eS (cEq_sI f (Or.inr rfl)), fun i hi => ?_⟩
    rw [kI_sI, hf i hi, lk_par hA hc]
    unfold sgt
    rw [if_neg s0, if_neg (show ¬ M.2 9 t = 12 by rw [s11]; decide), if_neg s1, if_neg s2, if_neg s3, if_neg n456, if_neg n78, if_neg n910, if_pos s11]
  rw [if_neg s11]
  by_cases s12 : M.2 9 t = 12
  · rw [if_pos s12]
    unfold fk_10_glance_76 fk_10_glance_94 fk_10_glance_231
    obtain ⟨j, m, kd, j1, -, j2, j4, -, -, j5, j3, -⟩ := (hA.1 t ht).2.2.2.2.2.2.1 (by rw [s12]; decide)
    rw [ckk_y k9, ckk_y v1, k1, j3, k_isThere hQ1.1 hQ1.2.1 hQ1.2.2.1 hQ1.2.2.2.1 j1, bd_s, lk_there hA hc j2, ← j5]
    have hg : ∀ x : Int32, x = b2 (thN M (l.take up) (M.2 10 t) = true) → ∀ i, i < 48 → (if i = 0 then x else 0) = sgt M mkO sl (l.take up) t i := fun x hx i _ => by
      unfold sgt
      rw [if_neg s0, if_pos s12, hx]
    cases hb : thN M (l.take up) (M.2 10 t)
    · obtain ⟨w1, w2, w3⟩ := one 0 c0 (hg 0 (by rw [hb]; exact (b2_f (by simp)).symm))
      rw [if_pos bFn, w3]
      exact ⟨_, rfl, w1, w2⟩
    · obtain ⟨w1, w2, w3⟩ := one 1 c0 (hg 1 (by rw [hb]; exact (b2_t rfl).symm))
      rw [if_neg bTn, w3]
      exact ⟨_, rfl, w1, w2⟩
  rw [if_neg s12]
  unfold fk_10_glance_225 fk_10_glanceFurther fk_10_glanceFurther_153 fk_10_glance_231
  rw [ckk_y v1, ckk_y k9, k0, if_neg s9, if_neg s10, if_neg s11, if_neg s12]
  have bnd' : (M.2 9 t = 15 ∨ M.2 9 t = 16) → ∃ S', bd (fk_10_glanceFurther_106 (sI S p f0) va (ra t) p) (fun S1 => some S1) = some S' ∧ cEq (fun a => inV vb a ∨ a = p) S S' ∧ ∀ i, i < 48 → kI S' p i = sgt M mkO sl (l.take up) t i := by
    intro hs15
    have h77 := hru.2.2.2.2.2.2.1.mpr hs15
    obtain ⟨j, m, kd, pp, b1, b2', b3, b4, b5, b6, b7, b8⟩ := row_pt hA ht (by rw [h77]; decide)
    rw [h77] at b1
    obtain ⟨x, hx, ex⟩ := (hA.1 t ht).2.2.2.2.2.2.2.2.1 (Or.inr (Or.inr hs15))
    have hkl : kyC M (l.take up) (M.2 10 t) (M.2 11 t) (M.2 12 t).toNatClampNeg = bnR M (chF M sl) l up (8 * j + pp) (M.2 12 t).toNatClampNeg := by rw [lk_M hA hc b1, ← b2', ← b3]
    have hxx : Int32.ofNat (M.2 12 t).toNatClampNeg = M.2 12 t := by rw [ex, jI_cl (by omega)]
    unfold bnR at hkl
    rw [hxx] at hkl
    have hsg : ∀ i, sgt M mkO sl (l.take up) t i = (if i = 0 then oI (kyC M (l.take up) (M.2 10 t) (M.2 11 t) (M.2 12 t).toNatClampNeg) else if i = 1 then oW M (kyC M (l.take up) (M.2 10 t) (M.2 11 t) (M.2 12 t).toNatClampNeg) else 0) := fun i => by
      unfold sgt
      rw [if_neg s0, if_neg s12, if_neg s1, if_neg s2, if_neg s3, if_neg n456, if_neg n78, if_neg n910, if_neg s11, if_pos hs15]
    have two : ∀ (x y : Int32), (∀ i, i < 48 → (if i = 0 then x else if i = 1 then y else 0) = sgt M mkO sl (l.take up) t i) → cEq (fun a => inV vb a ∨ a = p) S (cWi (cWi (sI S p f0) p 0 x) p 1 y) ∧ (∀ i, i < 48 → kI (cWi (cWi (sI S p f0) p 0 x) p 1 y) p i = sgt M mkO sl (l.take up) t i) ∧ (∀ {K : Option cSt}, ckk (sI S p f0) p 20 (ck (0 : Int32) (kL (sI S p f0) p) K) = K) ∧ ∀ {K : Option cSt}, ckk (cWi (sI S p f0) p 0 x) p 20 (ck (1 : Int32) (kL (cWi (sI S p f0) p 0 x) p) K) = K := fun x y hxy => by
      obtain ⟨w1, w2, w3⟩ := gl_w (i0 := 0) eS (Or.inr rfl) hk hl (by decide) x
      obtain ⟨y1, y2, y3⟩ := gl_w (i0 := 1) w1 (Or.inr rfl) hk hl (by decide) y
      refine ⟨y1, fun i hi => ?_, w3, y3⟩
      rw [y2, w2, z0 i hi, ← hxy i hi]
      by_cases h1 : i = 1
      · rw [if_pos h1, if_neg (by omega), if_pos h1]
      · rw [if_neg h1]
        by_cases h2 : i = 0
        · rw [if_pos h2, if_pos h2]
        · rw [if_neg h2, if_neg h2, if_neg h1]
    unfold fk_10_glanceFurther_106 fk_10_glanceFurther_132 fk_10_glanceFurther_149 fk_10_glanceFurther_153
    rw [ckk_y k9, ckk_y k9, ckk_y v1, k13, b4, k4, k_bindOf (ptO_c hA b1) hQ1.1 hQ1.2.1 hQ1.2.2.1 hQ1.2.2.2.1, bd_s]
    cases hbd : bdR M (chF M sl) l up (8 * j + pp) (M.2 12 t) with
    | none =>
      rw [hbd] at hkl
      obtain ⟨w1, w2, w3, w4⟩ := two 0 0 (fun i _ => by rw [hsg, hkl]; rfl)
      refine ⟨_, ?_, w1, w2⟩
      show bd (ckk (sI S p f0) p 20 (ck (0 : Int32) (kL (sI S p f0) p) _)) _ = _
      rw [w3, lt_d]
      show bd (ckk (cWi (sI S p f0) p 0 0) p 20 (ck (1 : Int32) (kL (cWi (sI S p f0) p 0 0) p) _)) _ = _
      rw [w4]; rfl
    | some q =>
      rw [hbd] at hkl
      by_cases h15 : M.2 9 q = 15
      · have hkl : kyC M (l.take up) (M.2 10 t) (M.2 11 t) (M.2 12 t).toNatClampNeg = some q := hkl.trans (if_pos h15)
        obtain ⟨w1, w2, w3, w4⟩ := two 1 (M.2 13 q) (fun i _ => by rw [hsg, hkl]; rfl)
        obtain ⟨hq1, -⟩ := kyC_s hkl
        have hq2 := mem_u hc hq1
        obtain ⟨-, y9, ⟨-, -, -, -, y5, -⟩, -⟩ := hQ1.1.2.2.1 q hq2.1 hq2
        refine ⟨_, ?_, w1, w2⟩
        show bd (cs (if M.2 9 q = 15 then some (ra q) else none) _ _) _ = _
        rw [if_pos h15]
        show bd (ckk (sI S p f0) p 20 (ck (0 : Int32) (kL (sI S p f0) p) _)) _ = _
        rw [w3, lt_d]
        show bd (ckk (cWi (sI S p f0) p 0 1) (ra q) 9 _) _ = _
        have y9' : kK (cWi (sI S p f0) p 0 1) (ra q) = 9 := y9
        have y5' : kF (cWi (sI S p f0) p (Int32.toNatClampNeg 0) 1) (ra q) 5 = M.2 13 q := y5
        rw [ckk_y y9', y5']
        show bd (ckk (cWi (sI S p f0) p 0 1) p 20 (ck (1 : Int32) (kL (cWi (sI S p f0) p 0 1) p) _)) _ = _
        rw [w4]; rfl
      · have hkl : kyC M (l.take up) (M.2 10 t) (M.2 11 t) (M.2 12 t).toNatClampNeg = none := hkl.trans (if_neg h15)
        obtain ⟨w1, w2, w3, w4⟩ := two 0 0 (fun i _ => by rw [hsg, hkl]; rfl)
        refine ⟨_, ?_, w1, w2⟩
        show bd (cs (if M.2 9 q = 15 then some (ra q) else none) _ _) _ = _
        rw [if_neg h15]
        show bd (ckk (sI S p f0) p 20 (ck (0 : Int32) (kL (sI S p f0) p) _)) _ = _
        rw [w3, lt_d]
        show bd (ckk (cWi (sI S p f0) p 0 0) p 20 (ck (1 : Int32) (kL (cWi (sI S p f0) p 0 0) p) _)) _ = _
        rw [w4]; rfl
  have nil : ¬ (M.2 9 t = 15 ∨ M.2 9 t = 16) → ∃ S', bd (some (sI S p f0)) (fun S1 => some S1) = some S' ∧ cEq (fun a => inV vb a ∨ a = p) S S' ∧ ∀ i, i < 48 → kI S' p i = sgt M mkO sl (l.take up) t i := fun hn => by
    refine ⟨_, rfl, eS, fun i hi => ?_⟩
    rw [z0 i hi]
    unfold sgt
    rw [if_neg s0, if_neg s12, if_neg s1, if_neg s2, if_neg s3, if_neg n456, if_neg n78, if_neg n910, if_neg s11, if_neg hn]
  by_cases s13 : M.2 9 t = 13
  · rw [if_pos s13]; exact nil (by rw [s13]; decide)
  rw [if_neg s13]
  by_cases s14 : M.2 9 t = 14
  · rw [if_pos s14]; exact nil (by rw [s14]; decide)
  rw [if_neg s14]
  by_cases s15 : M.2 9 t = 15
  · rw [if_pos s15]; exact bnd' (Or.inl s15)
  rw [if_neg s15]
  by_cases s16 : M.2 9 t = 16
  · rw [if_pos s16]; exact bnd' (Or.inr s16)
  rw [if_neg s16]
  exact nil (fun h => h.elim s15 s16)
end V
