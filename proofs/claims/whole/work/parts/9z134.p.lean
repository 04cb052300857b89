-- part 134: a row waits; the next that is ready
section V
variable {S S' S0 S1 : cSt} {M M' A : mSt} {ra : Nat → Nat} {sl ch : Nat → Int32} {mkO : Nat → Option Nat} {L Wt : Nat → List Nat} {ro ro' fa fa' : Nat → Nat} {x0 n m k k' Bt nf w r : Nat} {l W : List Nat}
/-- a row more waits, unless it does, or thirty do -/
def addW (W : List Nat) (r : Nat) : List Nat := if r ∈ W then W else if W.length = 30 then W else W ++ [r]
theorem ra_inj (hB : cBk M ra sl (chF M sl) (mde M) mkO S (x0 + 5)) {a b : Nat} (ha : mde M a) (hb : mde M b) (h : ra a = ra b) : a = b := by
  obtain ⟨-, -, -, ⟨-, -, -, k12⟩, -⟩ := hB.2.2.1 a ha.1 ha
  obtain ⟨-, -, -, ⟨-, -, -, k12'⟩, -⟩ := hB.2.2.1 b hb.1 hb
  rw [h, k12'] at k12
  exact ((jI_inj (by have := hb.1; omega) (by have := ha.1; omega)).mp k12).symm
theorem k_await {nd bk : Nat} (hy : cNy S nd bk n) (h11 : kF S nd 11 = Int32.ofNat W.length) (hW30 : W.length ≤ 30) (hO : ∀ i (h : i < W.length), kO S (nd + 8) i = some (ra W[i])) (h9 : kK S (ra r) = 9) (hinj : ∀ q ∈ W, ra q = ra r → q = r) : ∃ S', fk_7_await S nd (ra r) = some S' ∧ cEq (fun a => a = nd ∨ a = nd + 8) S S' ∧ kR S' nd = kR S nd ∧ (∀ j, j ≠ 11 → kF S' nd j = kF S nd j) ∧ kF S' nd 11 = Int32.ofNat (addW W r).length ∧ ∀ i (h : i < (addW W r).length), kO S' (nd + 8) i = some (ra (addW W r)[i]) := by
  have k8 := hy.1.1
  have r13 := hy.2.1.2.1
  have k30 := hy.2.2.2.2.2.1
  have loop : ∀ (j i fu : Nat), i + j = W.length → j < fu → (∀ q (h : q < W.length), q < i → W[q] ≠ r) → ∃ S', fk_7_await_2 fu S nd (ra r) (Int32.ofNat i) = some S' ∧ cEq (fun a => a = nd ∨ a = nd + 8) S S' ∧ kR S' nd = kR S nd ∧ (∀ j, j ≠ 11 → kF S' nd j = kF S nd j) ∧ kF S' nd 11 = Int32.ofNat (addW W r).length ∧ ∀ i (h : i < (addW W r).length), kO S' (nd + 8) i = some (ra (addW W r)[i]) := by
    intro j
    induction j with
    | zero =>
      intro i fu hi hf hne
      obtain ⟨fu, rfl⟩ : ∃ q, fu = q + 1 := ⟨fu - 1, by omega⟩
      have hnot : r ∉ W := fun hr => by
        obtain ⟨q, q1, q2⟩ := List.mem_iff_getElem.mp hr
        exact hne q q1 (by omega) q2
      rw [fk_7_await_2, ckk_y k8, h11, if_pos ((jI_le (by omega) (by omega)).mpr (by omega)), ckk_y k8]
      unfold fk_7_await_56
      by_cases c : W.length = 30
      · have ea : addW W r = W := by unfold addW; rw [if_neg hnot, if_pos c]
        rw [if_pos (show (30 : Int32) ≤ Int32.ofNat W.length by rw [c]; decide), ea]
        exact ⟨S, rfl, cEq_refl _ _, rfl, fun _ _ => rfl, h11, hO⟩
      · have ea : addW W r = W ++ [r] := by unfold addW; rw [if_neg hnot, if_neg c]
        have q9 : ∀ {T : cSt} {K : Option cSt}, kK T (ra r) = 9 → ckq T (some (ra r)) 9 K = K := fun h => ckk_y h
        have u8 : kK (cWo S (nd + 8) W.length (some (ra r))) nd = 8 := k8
        have u11 : kF (cWo S (nd + 8) W.length (some (ra r))) nd 11 = Int32.ofNat W.length := h11
        rw [if_neg (jK 30 30 rfl (by omega) (by decide)), ckk_y k8, r13, bd_s, ckk_y k8, ckk_y k30.1, k30.2, ck_n (by omega) (by omega), q9 h9, lt_d, jI_cl (by omega), ckk_y u8, ckk_y u8, u11, show Int32.ofNat W.length + 1 = Int32.ofNat (W.length + 1) from jI_add _ 1, lt_d, ea]
        refine ⟨_, rfl, cEq_trans (by rw [cWo_sO]; exact cEq_sO _ (Or.inr rfl)) (cEq_cPi _ (Or.inl rfl)), rfl, fun j hj => ?_, ?_, fun i hi' => ?_⟩
        · rw [kF_cPo _ _ (fun q => hj q.2)]; rfl
        · rw [kF_cPi, List.length_append, List.length_singleton]
        · show kO (cWo S (nd + 8) W.length (some (ra r))) (nd + 8) i = _
          rw [cWo_sO, kO_sO]
          unfold upo
          rw [List.length_append, List.length_singleton] at hi'
          by_cases e : i = W.length
          · subst e
            rw [if_pos rfl, List.getElem_append_right (Nat.le_refl _)]
            simp
          · rw [if_neg e, List.getElem_append_left (by omega)]; exact hO i (by omega)
    | succ j ih =>
      intro i fu hi hf hne
      obtain ⟨fu, rfl⟩ : ∃ q, fu = q + 1 := ⟨fu - 1, by omega⟩
      have hi' : i < W.length := by omega
      rw [fk_7_await_2, ckk_y k8, h11, if_neg (fun q => absurd ((jI_le (by omega) (by omega)).mp q) (by omega)), ckk_y k8, r13, bd_s, ckk_y k30.1, k30.2, ck_n (by omega) (by omega), lt_d, jI_cl (by omega), hO i hi']
      by_cases c : W[i] = r
      · have ea : addW W r = W := by unfold addW; rw [if_pos (by rw [← c]; exact List.getElem_mem hi')]
        rw [if_pos (by rw [c]), ea]
        exact ⟨S, rfl, cEq_refl _ _, rfl, fun _ _ => rfl, h11, hO⟩
      · rw [if_neg (fun q => c (hinj _ (List.getElem_mem hi') (Option.some.inj q))), lt_d, show Int32.ofNat i + 1 = Int32.ofNat (i + 1) from jI_add _ 1]
        exact ih (i + 1) fu (by omega) (by omega) (fun q hq hqi => by
          by_cases e : q = i
          · subst e; exact c
          · exact hne q hq (by omega))
  exact loop W.length 0 mFU (by omega) (Nat.lt_of_le_of_lt hW30 (by decide)) (fun q _ h => absurd h (by omega))
theorem m_keep (hn : n < 4) (hr : r < 1000) (hW : mWt M n W) : ∃ M', fm_keep M (Int32.ofNat n) (Int32.ofNat r) = some M' ∧ mEx (fun k => k = 25 ∨ k = 26) M M' ∧ mWt M' n (addW W r) ∧ (∀ n', n' ≠ n → n' < 4 → M'.2 25 n' = M.2 25 n' ∧ ∀ i, i < 30 → M'.2 26 (30 * n' + i) = M.2 26 (30 * n' + i)) := by
  obtain ⟨h1, h2, h3⟩ := hW
  have loop : ∀ (j i fu : Nat), i + j = W.length → j < fu → (∀ q (h : q < W.length), q < i → W[q] ≠ r) → ∃ M', fm_keep_2 fu M (Int32.ofNat n) (Int32.ofNat r) (Int32.ofNat i) = some M' ∧ mEx (fun k => k = 25 ∨ k = 26) M M' ∧ mWt M' n (addW W r) ∧ (∀ n', n' ≠ n → n' < 4 → M'.2 25 n' = M.2 25 n' ∧ ∀ i, i < 30 → M'.2 26 (30 * n' + i) = M.2 26 (30 * n' + i)) := by
    intro j
    induction j with
    | zero =>
      intro i fu hi hf hne
      obtain ⟨fu, rfl⟩ : ∃ q, fu = q + 1 := ⟨fu - 1, by omega⟩
      have hnot : r ∉ W := fun hr => by
        obtain ⟨q, q1, q2⟩ := List.mem_iff_getElem.mp hr
        exact hne q q1 (by omega) q2
      rw [fm_keep_2, ck_n hn (by omega), rd_n _ _ (by omega), h2, if_pos ((jI_le (by omega) (by omega)).mpr (by omega)), ck_n hn (by omega)]
      by_cases c : W.length = 30
      · have ea : addW W r = W := by unfold addW; rw [if_neg hnot, if_pos c]
        rw [if_pos (show Int32.ofNat W.length = 30 by rw [c]; rfl), ea]
        exact ⟨M, rfl, mEx_refl _ _, ⟨h1, h2, h3⟩, fun _ _ _ => ⟨rfl, fun _ _ => rfl⟩⟩
      · have ea : addW W r = W ++ [r] := by unfold addW; rw [if_neg hnot, if_neg c]
        rw [if_neg (jN 30 30 rfl c (by omega) (by decide)), ck_n hn (by omega), show (30 : Int32) * Int32.ofNat n + Int32.ofNat W.length = Int32.ofNat (30 * n + W.length) from by rw [show (30 : Int32) = Int32.ofNat 30 from rfl, jI_mul, jI_add], ck_n (by omega) (by omega), lt_d, ck_n hn (by omega), ck_n hn (by omega), rd_n _ _ (by omega), wr_o _ _ _ (by decide), h2, show Int32.ofNat W.length + 1 = Int32.ofNat (W.length + 1) from jI_add _ 1, lt_d, ea]
        generalize hM2 : wr (wr M 26 (Int32.ofNat (30 * n + W.length)) (Int32.ofNat r)) 25 (Int32.ofNat n) (Int32.ofNat (W.length + 1)) = M2
        have f25 : M2.2 25 = upd (M.2 25) n (Int32.ofNat (W.length + 1)) := by rw [← hM2, wr_s _ _ (by omega), wr_o _ _ _ (by decide)]
        have f26 : M2.2 26 = upd (M.2 26) (30 * n + W.length) (Int32.ofNat r) := by rw [← hM2, wr_o _ _ _ (by decide), wr_s _ _ (by omega)]
        refine ⟨M2, rfl, by rw [← hM2]; exact mEx_trans (mEx_wr (Or.inr rfl) _ _) (mEx_wr (Or.inl rfl) _ _), ⟨?_, ?_, fun i hi' => ?_⟩, fun n' hn' hn4 => ⟨?_, fun i hi' => ?_⟩⟩
        · rw [List.length_append, List.length_singleton]; omega
        · rw [f25, upd_s, List.length_append, List.length_singleton]
        · rw [List.length_append, List.length_singleton] at hi'
          rw [f26]
          by_cases e : i = W.length
          · subst e
            rw [upd_s, List.getElem_append_right (Nat.le_refl _)]
            simp only [Nat.sub_self, List.getElem_cons_zero]
            exact ⟨trivial, hr⟩
          · rw [upd_o _ _ (by omega), List.getElem_append_left (by omega)]; exact h3 i (by omega)
        · rw [f25, upd_o _ _ hn']
        · rw [f26, upd_o _ _ (by omega)]
    | succ j ih =>
      intro i fu hi hf hne
      obtain ⟨fu, rfl⟩ : ∃ q, fu = q + 1 := ⟨fu - 1, by omega⟩
      have hi' : i < W.length := by omega
      have hb := (h3 i hi').2
      rw [fm_keep_2, ck_n hn (by omega), rd_n _ _ (by omega), h2, if_neg (fun q => absurd ((jI_le (by omega) (by omega)).mp q) (by omega)), show (30 : Int32) * Int32.ofNat n + Int32.ofNat i = Int32.ofNat (30 * n + i) from by rw [show (30 : Int32) = Int32.ofNat 30 from rfl, jI_mul, jI_add], ck_n (by omega) (by omega), rd_n _ _ (by omega), (h3 i hi').1]
      by_cases c : W[i] = r
      · have ea : addW W r = W := by unfold addW; rw [if_pos (by rw [← c]; exact List.getElem_mem hi')]
        rw [if_pos (by rw [c]), ea]
        exact ⟨M, rfl, mEx_refl _ _, ⟨h1, h2, h3⟩, fun _ _ _ => ⟨rfl, fun _ _ => rfl⟩⟩
      · rw [if_neg (fun q => c ((jI_inj (by omega) (by omega)).mp q)), lt_d, show Int32.ofNat i + 1 = Int32.ofNat (i + 1) from jI_add _ 1]
        exact ih (i + 1) fu (by omega) (by omega) (fun q hq hqi => by
          by_cases e : q = i
          · subst e; exact c
          · exact hne q hq (by omega))
  exact loop W.length 0 mFU (by omega) (Nat.lt_of_le_of_lt h1 (by decide)) (fun q _ h => absurd h (by omega))
theorem Ib_wait (h : Ib x0 k S M ra sl mkO L Wt ro fa) (hn : n < 4) (hr : mde M r) (hrl : r ∉ L n) : ∃ S' M', fk_7_await S (sN x0 n) (ra r) = some S' ∧ fm_keep M (Int32.ofNat n) (Int32.ofNat r) = some M' ∧ Ib x0 k S' M' ra sl mkO L (updL Wt n (addW (Wt n) r)) ro fa ∧ cEq (fun a => x0 + 22 ≤ a ∧ a < x0 + 126) S S' ∧ mEx (fun k => k = 25 ∨ k = 26) M M' := by
  obtain ⟨hc, hh, hkd, hth, htx, hro, hl, hnu⟩ := h
  have hc' := hc
  obtain ⟨⟨hA, hsl, htb, hBt⟩, ⟨hB, hBa⟩, hN, hz1, hz2⟩ := hc'
  obtain ⟨⟨hM1, hC1⟩, ⟨hw1, hw2, hw3⟩, hown⟩ := hN n hn
  have hC2 := hC1
  obtain ⟨⟨hy, hv, hls⟩, -, -, ⟨f8, f9, f10⟩, hs, hsn, hcu⟩ := hC1
  have hx : x0 + 22 ≤ sN x0 n ∧ sN x0 n + 26 ≤ x0 + 126 := by unfold sN; omega
  obtain ⟨S', s1, s2, s3, s4, s5, s6⟩ := k_await hy hw2.1 hw1.1 hw2.2 (hB.2.2.1 r hr.1 hr).2.1 (fun q hq e => ra_inj hB (hw3.2 q hq).1 hr e)
  obtain ⟨M', m1, m2, m3, m4⟩ := m_keep hn hr.1 hw1
  have r' : rEq M M' := fun k h1 h2 => (m2 k (by omega)).2
  have fm : ∀ k, k ≠ 25 → k ≠ 26 → M'.2 k = M.2 k := fun k a b => (m2 k (by omega)).2
  have eAll : cEq (fun a => x0 + 22 ≤ a ∧ a < x0 + 126) S S' := cEq_mono s2 (fun a ha => by omega)
  have hco : core x0 (1000 * k) S' M' ra sl mkO (updL L n (L n)) (updL Wt n (addW (Wt n) r)) := by
    refine core_n1 hc hn s2 (fun a ha => by omega) r' (fun n' hn' en => nEq_of r' (fun k k1 k2 i hi => ?_)) ⟨fun n' hn' => ?_, fun q hq => ?_⟩ hBt ⟨⟨nM_w hM1 r' (fun k hk => fm k (by omega) (by omega)) (lsM_f hM1.2.2.1 (fun k hk => fm k (by omega) (by omega))), nC_w hC2 s2 (fun a ha => by omega) s3 (s4 0 (by decide)) r' (fun k hk => fm k (by omega) (by omega)) (cLs_f hls (fun k hk => fm k (by omega) (by omega)) (s2.2.2.2.2 _ (by omega)).2.2.1) ⟨by rw [s4 8 (by decide), fm 17 (by decide) (by decide)]; exact f8, by rw [s4 9 (by decide), fm 18 (by decide) (by decide)]; exact f9, by rw [s4 10 (by decide), fm 19 (by decide) (by decide)]; exact f10⟩ ?_ ?_ ?_⟩, ⟨m3, ⟨s5, s6⟩, ⟨?_, fun q hq => ?_⟩⟩, hown⟩
    · by_cases e25 : k = 25
      · subst e25
        have : i = n' := by simpa [wdt] using hi
        subst this
        exact (m4 i en hn').1
      · by_cases e26 : k = 26
        · subst e26
          have hi' : i / 30 = n' := hi
          have := (m4 n' en hn').2 (i - 30 * n') (by omega)
          rw [show 30 * n' + (i - 30 * n') = i by omega] at this
          exact this
        · rw [fm k e25 e26]
    · obtain ⟨⟨W, W1, W2⟩, T', C', g1, g2, g3, g4⟩ := htb.1 n' hn'
      exact ⟨⟨W, W1, by rw [fm 17 (by decide) (by decide)]; exact W2⟩, T', C', by rw [fm 18 (by decide) (by decide)]; exact g1, by rw [fm 19 (by decide) (by decide)]; exact g2, g3, by rw [tot_r r']; exact g4⟩
    · rw [mde_r r'] at hq
      obtain ⟨t', c', g1, g2, g3, g4⟩ := htb.2 q hq
      exact ⟨t', c', by rw [fm 14 (by decide) (by decide)]; exact g1, by rw [fm 15 (by decide) (by decide)]; exact g2, g3, by rw [tot_r r']; exact g4⟩
    · unfold snV; rw [(s2.2.2.2.2 (sN x0 n + 5) (by omega)).2.2.1, fm 20 (by decide) (by decide), fm 21 (by decide) (by decide)]; exact hs
    · rw [(s2.2.2.2.2 (sN x0 n + 6) (by omega)).2.2.1, fm 22 (by decide) (by decide)]; exact hsn
    · rw [(s2.2.2.2.2 (sN x0 n + 7) (by omega)).2.2.1, fm 31 (by decide) (by decide)]; exact hcu
    · unfold addW
      by_cases c : r ∈ Wt n
      · rw [if_pos c]; exact hw3.1
      · rw [if_neg c]
        by_cases c2 : (Wt n).length = 30
        · rw [if_pos c2]; exact hw3.1
        · rw [if_neg c2]
          exact List.nodup_append.mpr ⟨hw3.1, List.nodup_cons.mpr ⟨by simp, List.nodup_nil⟩, fun a ha b hb => by rw [List.mem_singleton.mp hb]; intro e; exact c (by rw [← e]; exact ha)⟩
    · rw [mde_r r']
      unfold addW at hq
      by_cases c : r ∈ Wt n
      · rw [if_pos c] at hq; exact hw3.2 q hq
      · rw [if_neg c] at hq
        by_cases c2 : (Wt n).length = 30
        · rw [if_pos c2] at hq; exact hw3.2 q hq
        · rw [if_neg c2] at hq
          rcases List.mem_append.mp hq with q1 | q1
          · exact hw3.2 q q1
          · rw [List.mem_singleton.mp q1]; exact ⟨hr, hrl⟩
  rw [updL_id] at hco
  have hm : ∀ j m, mkO j = some m → mde M m := fun j m hj => (hA.2.1.1 j m hj).2.1
  have eM := lvM_r (M := M) (M' := M') (mEx_mono m2 (fun k hk => by omega))
  have eC : lvC x0 S S' := lvC_eq eAll (fun a ha => ha)
  have eR : lvR M ra ra mkO mkO := ⟨fun _ _ => rfl, fun _ _ h => h, hm⟩
  refine ⟨S', M', s1, m1, ⟨hco, hsI_g hh eC (m2 45 (by decide)).1, kdI_g hkd eM (fun i hi => m2 i (by omega)) (cSm_eq eAll (fun a ha q => by omega)) (fun m _ h1 h2 => absurd (by rw [mde_r r'] at h1; exact h1) h2), thI_g hth eC, txI_g htx eC (fun _ _ => rfl), ?_, lnI_g hl eM eR (fun i hi => m2 i (by omega)) eC (cSm_eq eAll (fun a ha q => by omega)) (fun _ _ => rfl) (Nat.le_refl _), nuI_g hnu eM eR (Nat.le_refl _) (fm 21 (by decide) (by decide)) (fm 22 (by decide) (by decide)) (fm 31 (by decide) (by decide))⟩, eAll, m2⟩
  unfold roI; rw [mde_r r']; exact hro
/-- ready: the next of its node, and all that it knew is here -/
def rdyB (M : mSt) (kn : Nat → Nat) (r : Nat) : Bool := decide (rM r = kn (rN r) + 1) && (List.range 4).all (fun q => decide (M.2 16 (4 * r + q) ≤ Int32.ofNat (kn q)))
theorem rg4_all (f : Nat → Bool) : (List.range 4).all f = (f 0 && (f 1 && (f 2 && f 3))) := by
  rw [show List.range 4 = [0, 1, 2, 3] from rfl]
  simp only [List.all_cons, List.all_nil, Bool.and_true]
theorem k_isReady {nd : Nat} {kn : Nat → Nat} (h8 : kK S nd = 8) (hk : ∀ q, q < 4 → fk_7_knownOf S nd (Int32.ofNat q) = some (Int32.ofNat (kn q)) ∧ kn q ≤ 250) (hr : r < 1000) (hc : cRow M sl ch S r (ra r)) : fk_7_isReady S nd (ra r) = some (b2 (rdyB M kn r = true)) := by
  obtain ⟨k9, -, ⟨r6, r7, -⟩, -, -, va, v1, v2, v3, v4, v5⟩ := hc
  have hn := rN_lt hr
  have hM := rM_le r
  have hkn := (hk _ hn).2
  have loop : ∀ (j i fu : Nat), i + j = 4 → j < fu → ∃ bb : Bool, fk_7_isReady_21 S fu nd (ra r) (Int32.ofNat i) = some (b2 (bb = true)) ∧ (bb = true ↔ ∀ q, q < 4 → i ≤ q → M.2 16 (4 * r + q) ≤ Int32.ofNat (kn q)) := by
    intro j
    induction j with
    | zero =>
      intro i fu hi hf
      obtain ⟨fu, rfl⟩ : ∃ q, fu = q + 1 := ⟨fu - 1, by omega⟩
      have e : i = 4 := by omega
      subst e
      rw [fk_7_isReady_21, if_pos (show (4 : Int32) ≤ Int32.ofNat 4 by decide), ckz_1]
      exact ⟨true, rfl, fun _ q h1 h2 => absurd h1 (by omega), fun _ => rfl⟩
    | succ j ih =>
      intro i fu hi hf
      obtain ⟨fu, rfl⟩ : ∃ q, fu = q + 1 := ⟨fu - 1, by omega⟩
      rw [fk_7_isReady_21, if_neg (jK 4 4 rfl (by omega) (by decide)), ckk_y h8, (hk i (by omega)).1, bd_s, ckk_y k9, v2, bd_s, ckk_y v3, v4, ck_n (by omega) (by omega), jI_cl (by omega), v5 i (by omega)]
      by_cases c : M.2 16 (4 * r + i) ≤ Int32.ofNat (kn i)
      · obtain ⟨bb, x1, x2⟩ := ih (i + 1) fu (by omega) (by omega)
        rw [if_pos c, lt_d, show Int32.ofNat i + 1 = Int32.ofNat (i + 1) from jI_add _ 1, x1]
        refine ⟨bb, rfl, x2.trans ⟨?_, ?_⟩⟩
        · intro h q h1 h2
          by_cases e : q = i
          · rw [e]; exact c
          · exact h q h1 (by omega)
        · intro h q h1 h2; exact h q h1 (by omega)
      · rw [if_neg c, ckz_0]
        exact ⟨false, rfl, fun q => (by cases q), fun h => absurd (h i (by omega) (Nat.le_refl _)) c⟩
  unfold fk_7_isReady rdyB
  rw [ckk_y k9, ckk_y k9, ckk_y h8, r6, (hk _ hn).1, bd_s, r7, show Int32.ofNat (kn (rN r)) + 1 = Int32.ofNat (kn (rN r) + 1) from jI_add _ 1]
  by_cases c : rM r = kn (rN r) + 1
  · obtain ⟨bb, x1, x2⟩ := loop 4 0 mFU rfl (by decide)
    rw [if_pos (by rw [c]), show (0 : Int32) = Int32.ofNat 0 from rfl, x1]
    congr 1
    apply b2_eq.mpr
    rw [x2, decide_eq_true c, Bool.true_and, List.all_eq_true]
    constructor
    · intro h q hq; exact decide_eq_true (h q (List.mem_range.mp hq) (Nat.zero_le _))
    · intro h q h1 _; exact of_decide_eq_true (h q (List.mem_range.mpr h1))
  · rw [if_neg (fun q => c ((jI_inj (by omega) (by omega)).mp q)), ckz_0, b2_f]
    rw [decide_eq_false c]; simp
theorem m_isReady {kn : Nat → Nat} (hn : n < 4) (hk : ∀ q, q < 4 → M.2 20 (4 * n + q) = Int32.ofNat (kn q) ∧ kn q ≤ 250) (hr : r < 1000) : fm_isReady M (Int32.ofNat n) (Int32.ofNat r) = some (b2 (rdyB M kn r = true)) := by
  have hnr := rN_lt hr
  have hM := rM_le r
  have hkn := (hk _ hnr).2
  have known : ∀ q, q < 4 → fm_knownOf M (Int32.ofNat n) (Int32.ofNat q) = some (Int32.ofNat (kn q)) := fun q hq => by rw [m_knownOf (mEx_refl sc M) hn hq, (hk q hq).1]
  have loop : ∀ (j i fu : Nat) (b : Bool), i + j = 4 → j < fu → ∃ bb : Bool, fm_isReady_27 M fu (Int32.ofNat n) (Int32.ofNat r) (b2 (b = true)) (Int32.ofNat i) = some (b2 (bb = true)) ∧ (bb = true ↔ b = true ∧ ∀ q, q < 4 → i ≤ q → M.2 16 (4 * r + q) ≤ Int32.ofNat (kn q)) := by
    intro j
    induction j with
    | zero =>
      intro i fu b hi hf
      obtain ⟨fu, rfl⟩ : ∃ q, fu = q + 1 := ⟨fu - 1, by omega⟩
      have e : i = 4 := by omega
      subst e
      rw [fm_isReady_27, if_pos (show (4 : Int32) ≤ Int32.ofNat 4 by decide), ckz_b]
      exact ⟨b, rfl, fun h => ⟨h, fun q h1 h2 => absurd h1 (by omega)⟩, fun h => h.1⟩
    | succ j ih =>
      intro i fu b hi hf
      obtain ⟨fu, rfl⟩ : ∃ q, fu = q + 1 := ⟨fu - 1, by omega⟩
      have s1 : Int32.ofNat i + 1 = Int32.ofNat (i + 1) := jI_add _ 1
      rw [fm_isReady_27, if_neg (jK 4 4 rfl (by omega) (by decide))]
      unfold fm_isReady_62 fm_isReady_63
      rw [lt_d, lt_d, s1]
      have no : (b = false ∨ ¬ M.2 16 (4 * r + i) ≤ Int32.ofNat (kn i)) → ∃ bb : Bool, fm_isReady_27 M fu (Int32.ofNat n) (Int32.ofNat r) 0 (Int32.ofNat (i + 1)) = some (b2 (bb = true)) ∧ (bb = true ↔ b = true ∧ ∀ q, q < 4 → i ≤ q → M.2 16 (4 * r + q) ≤ Int32.ofNat (kn q)) := fun hno => by
        obtain ⟨bb, x1, x2⟩ := ih (i + 1) fu false (by omega) (by omega)
        refine ⟨bb, x1, x2.trans ⟨fun h => (by cases h.1), fun h => ?_⟩⟩
        rcases hno with q | q
        · rw [q] at h; cases h.1
        · exact absurd (h.2 i (by omega) (Nat.le_refl _)) q
      cases b with
      | false => rw [if_pos bFn]; exact no (Or.inl rfl)
      | true =>
        rw [if_neg bTn, known i (by omega), bd_s, show (4 : Int32) * Int32.ofNat r + Int32.ofNat i = Int32.ofNat (4 * r + i) from by rw [show (4 : Int32) = Int32.ofNat 4 from rfl, jI_mul, jI_add], ck_n (by omega) (by omega), rd_n _ _ (by omega)]
        by_cases c : M.2 16 (4 * r + i) ≤ Int32.ofNat (kn i)
        · rw [if_neg (Int32.not_lt.mpr c)]
          obtain ⟨bb, x1, x2⟩ := ih (i + 1) fu true (by omega) (by omega)
          refine ⟨bb, x1, x2.trans ⟨fun h => ⟨rfl, fun q h1 h2 => ?_⟩, fun h => ⟨rfl, fun q h1 h2 => h.2 q h1 (by omega)⟩⟩⟩
          by_cases e : q = i
          · rw [e]; exact c
          · exact h.2 q h1 (by omega)
        · rw [if_pos (Int32.not_le.mp c)]; exact no (Or.inr c)
  unfold fm_isReady fm_isReady_23 rdyB
  rw [m_numberOf hr, bd_s, m_nodeOf hr, bd_s, known _ hnr, bd_s, show Int32.ofNat (kn (rN r)) + 1 = Int32.ofNat (kn (rN r) + 1) from jI_add _ 1]
  have fin : ∀ b : Bool, (b = true ↔ rM r = kn (rN r) + 1) → fm_isReady_27 M mFU (Int32.ofNat n) (Int32.ofNat r) (b2 (b = true)) 0 = some (b2 ((decide (rM r = kn (rN r) + 1) && (List.range 4).all (fun q => decide (M.2 16 (4 * r + q) ≤ Int32.ofNat (kn q)))) = true)) := fun b hb => by
    obtain ⟨bb, x1, x2⟩ := loop 4 0 mFU b rfl (by decide)
    rw [show (0 : Int32) = Int32.ofNat 0 from rfl, x1]
    congr 1
    apply b2_eq.mpr
    rw [x2, hb, Bool.and_eq_true, List.all_eq_true]
    constructor
    · intro h; exact ⟨decide_eq_true h.1, fun q hq => decide_eq_true (h.2 q (List.mem_range.mp hq) (Nat.zero_le _))⟩
    · intro h; exact ⟨of_decide_eq_true h.1, fun q h1 _ => of_decide_eq_true (h.2 q (List.mem_range.mpr h1))⟩
  by_cases c : rM r = kn (rN r) + 1
  · rw [if_pos (by rw [c])]; exact fin true ⟨fun _ => c, fun _ => rfl⟩
  · rw [if_neg (fun q => c ((jI_inj (by omega) (by omega)).mp q))]; exact fin false ⟨fun h => (by cases h), fun h => absurd h c⟩
/-- of those that wait the first in order that is ready -/
def frF (K : Nat → Nat) (P : Nat → Bool) (o : Option Nat) (r : Nat) : Option Nat := if P r = true then (match o with | none => some r | some q => if K r < K q then some r else some q) else o
theorem frF_f {K : Nat → Nat} {P : Nat → Bool} {o : Option Nat} {r : Nat} (h : P r = false) : frF K P o r = o := by
  unfold frF; rw [if_neg (by rw [h]; decide)]
theorem frF_n {K : Nat → Nat} {P : Nat → Bool} {r : Nat} (h : P r = true) : frF K P none r = some r := by
  unfold frF; rw [if_pos h]
theorem frF_s {K : Nat → Nat} {P : Nat → Bool} {q r : Nat} (h : P r = true) : frF K P (some q) r = if K r < K q then some r else some q := by
  unfold frF; rw [if_pos h]
theorem frF_in {K : Nat → Nat} {P : Nat → Bool} {q : Nat} : ∀ (W : List Nat) (o : Option Nat), W.foldl (frF K P) o = some q → (o = some q) ∨ (q ∈ W ∧ P q = true) := by
  intro W
  induction W with
  | nil => intro o h; exact Or.inl h
  | cons a W ih =>
    intro o h
    rw [List.foldl_cons] at h
    rcases ih _ h with h1 | ⟨h1, h2⟩
    · cases hr : P a with
      | false => rw [frF_f hr] at h1; exact Or.inl h1
      | true =>
        cases o with
        | none =>
          rw [frF_n hr] at h1
          cases h1
          exact Or.inr ⟨List.mem_cons_self, hr⟩
        | some b =>
          rw [frF_s hr] at h1
          by_cases c : K a < K b
          · rw [if_pos c] at h1
            cases h1
            exact Or.inr ⟨List.mem_cons_self, hr⟩
          · rw [if_neg c] at h1; exact Or.inl h1
    · exact Or.inr ⟨List.mem_cons_of_mem _ h1, h2⟩
def frB (K : Nat → Nat) (P : Nat → Bool) (W : List Nat) : Option Nat := W.foldl (frF K P) none
theorem frB_in {K : Nat → Nat} {P : Nat → Bool} {q : Nat} (h : frB K P W = some q) : q ∈ W ∧ P q = true := by
  rcases frF_in W none h with h | h
  · cases h
  · exact h
theorem m_nextReady {kn : Nat → Nat} (ht : tOk M) (hn : n < 4) (hk : ∀ q, q < 4 → M.2 20 (4 * n + q) = Int32.ofNat (kn q) ∧ kn q ≤ 250) (hW : mWt M n W) : fm_nextReady M (Int32.ofNat n) = some (rI (frB (rK M) (rdyB M kn) W)) := by
  obtain ⟨h1, h2, h3⟩ := hW
  have hb : ∀ i, ∀ q, (W.take i).foldl (frF (rK M) (rdyB M kn)) none = some q → q < 1000 := fun i q h => by
    have := (frB_in (W := W.take i) h).1
    obtain ⟨z, z1, z2⟩ := List.mem_iff_getElem.mp (List.mem_of_mem_take this)
    rw [← z2]; exact (h3 z z1).2
  have loop : ∀ (j i fu : Nat), i + j = W.length → j < fu → fm_nextReady_4 M fu (Int32.ofNat n) (rI ((W.take i).foldl (frF (rK M) (rdyB M kn)) none)) (Int32.ofNat i) = some (rI (frB (rK M) (rdyB M kn) W)) := by
    intro j
    induction j with
    | zero =>
      intro i fu hi hf
      obtain ⟨fu, rfl⟩ : ∃ q, fu = q + 1 := ⟨fu - 1, by omega⟩
      rw [fm_nextReady_4, ck_n hn (by omega), rd_n _ _ (by omega), h2, if_pos ((jI_le (by omega) (by omega)).mpr (by omega)), List.take_of_length_le (by omega)]; rfl
    | succ j ih =>
      intro i fu hi hf
      obtain ⟨fu, rfl⟩ : ∃ q, fu = q + 1 := ⟨fu - 1, by omega⟩
      have hi' : i < W.length := by omega
      obtain ⟨w1, w2⟩ := h3 i hi'
      have ih' := ih (i + 1) fu (by omega) (by omega)
      rw [List.take_succ_eq_append_getElem hi', List.foldl_append, List.foldl_cons, List.foldl_nil] at ih'
      have hbi := hb i
      generalize (W.take i).foldl (frF (rK M) (rdyB M kn)) none = o at ih' hbi ⊢
      rw [fm_nextReady_4, ck_n hn (by omega), rd_n _ _ (by omega), h2, if_neg (fun q => absurd ((jI_le (by omega) (by omega)).mp q) (by omega)), show (30 : Int32) * Int32.ofNat n + Int32.ofNat i = Int32.ofNat (30 * n + i) from by rw [show (30 : Int32) = Int32.ofNat 30 from rfl, jI_mul, jI_add], ck_n (by omega) (by omega), rd_n _ _ (by omega), w1, lt_d, m_isReady hn hk w2, bd_s]
      unfold fm_nextReady_52 fm_nextReady_55
      rw [lt_d, lt_d, show Int32.ofNat i + 1 = Int32.ofNat (i + 1) from jI_add _ 1]
      cases hr : rdyB M kn W[i] with
      | false => rw [frF_f hr] at ih'; rw [if_pos bFn]; exact ih'
      | true =>
        rw [if_neg bTn]
        cases o with
        | none => rw [frF_n hr] at ih'; rw [if_pos (show rI none = -1 from rfl)]; exact ih'
        | some q =>
          have hq := hbi q rfl
          rw [frF_s hr] at ih'
          have ih2 := ih'
          rw [show rI (some q) = Int32.ofNat q from rfl, if_neg (jI_ne (by omega)), m_isBefore ht w2 hq, bd_s]
          by_cases c : rK M W[i] < rK M q
          · rw [if_pos c] at ih2
            rw [b2_t c, if_neg n10]; exact ih2
          · rw [if_neg c] at ih2
            rw [b2_f c, if_pos rfl]; exact ih2
  unfold fm_nextReady
  exact loop W.length 0 mFU (by omega) (Nat.lt_of_le_of_lt h1 (by decide))
theorem k_firstReady {nd bk : Nat} {kn : Nat → Nat} (ht : tOk M) (hy : cNy S nd bk n) (hk : ∀ q, q < 4 → fk_7_knownOf S nd (Int32.ofNat q) = some (Int32.ofNat (kn q)) ∧ kn q ≤ 250) (h11 : kF S nd 11 = Int32.ofNat W.length) (hW30 : W.length ≤ 30) (hO : ∀ i (h : i < W.length), kO S (nd + 8) i = some (ra W[i])) (hcr : ∀ q ∈ W, q < 1000 ∧ cRow M sl ch S q (ra q)) : fk_7_firstReady S nd = some ((frB (rK M) (rdyB M kn) W).map ra) := by
  have k8 := hy.1.1
  have r13 := hy.2.1.2.1
  have k30 := hy.2.2.2.2.2.1
  have hb : ∀ i, ∀ q, (W.take i).foldl (frF (rK M) (rdyB M kn)) none = some q → q ∈ W := fun i q h => List.mem_of_mem_take (frB_in (W := W.take i) h).1
  have loop : ∀ (j i fu : Nat), i + j = W.length → j < fu → fk_7_firstReady_4 S fu nd (((W.take i).foldl (frF (rK M) (rdyB M kn)) none).map ra) (Int32.ofNat i) = some ((frB (rK M) (rdyB M kn) W).map ra) := by
    intro j
    induction j with
    | zero =>
      intro i fu hi hf
      obtain ⟨fu, rfl⟩ : ∃ q, fu = q + 1 := ⟨fu - 1, by omega⟩
      rw [fk_7_firstReady_4, ckk_y k8, h11, if_pos ((jI_le (by omega) (by omega)).mpr (by omega)), List.take_of_length_le (by omega)]; rfl
    | succ j ih =>
      intro i fu hi hf
      obtain ⟨fu, rfl⟩ : ∃ q, fu = q + 1 := ⟨fu - 1, by omega⟩
      have hi' : i < W.length := by omega
      obtain ⟨w2, wc⟩ := hcr _ (List.getElem_mem hi')
      have ih' := ih (i + 1) fu (by omega) (by omega)
      rw [List.take_succ_eq_append_getElem hi', List.foldl_append, List.foldl_cons, List.foldl_nil] at ih'
      have hbi := hb i
      generalize (W.take i).foldl (frF (rK M) (rdyB M kn)) none = o at ih' hbi ⊢
      rw [fk_7_firstReady_4, ckk_y k8, h11, if_neg (fun q => absurd ((jI_le (by omega) (by omega)).mp q) (by omega)), ckk_y k8, r13, bd_s, ckk_y k30.1, k30.2, ck_n (by omega) (by omega), lt_d, jI_cl (by omega), hO i hi', bd_s, ckk_y k8, k_isReady k8 hk w2 wc, bd_s]
      unfold fk_7_firstReady_42 fk_7_firstReady_49
      rw [lt_d, show Int32.ofNat i + 1 = Int32.ofNat (i + 1) from jI_add _ 1]
      cases hr : rdyB M kn W[i] with
      | false => rw [frF_f hr] at ih'; rw [if_pos bFn]; exact ih'
      | true =>
        rw [if_neg bTn]
        cases o with
        | none =>
          rw [frF_n hr] at ih'
          rw [show (none : Option Nat).map ra = none from rfl, cs_N, ckk_y k8, r13, bd_s, ckk_y k30.1, k30.2, ck_n (by omega) (by omega), lt_d, jI_cl (by omega), hO i hi', lt_d]; exact ih'
        | some q =>
          obtain ⟨hq, qc⟩ := hcr q (hbi q rfl)
          rw [frF_s hr] at ih'
          have ih2 := ih'
          rw [show (some q).map ra = some (ra q) from rfl, cs_S, ckk_y k8, r13, bd_s, ckk_y k30.1, k30.2, ck_n (by omega) (by omega), lt_d, jI_cl (by omega), hO i hi', bd_s, ckk_y wc.1, k_isBefore ht w2 hq wc qc, bd_s]
          by_cases c : rK M W[i] < rK M q
          · rw [if_pos c] at ih2
            rw [b2_t c, if_neg n10, ckk_y k8, bd_s, ckk_y k30.1, ck_n (by omega) (by omega), lt_d, hO i hi', lt_d]; exact ih2
          · rw [if_neg c] at ih2
            rw [b2_f c, if_pos rfl, lt_d]; exact ih2
  unfold fk_7_firstReady
  exact loop W.length 0 mFU (by omega) (Nat.lt_of_le_of_lt hW30 (by decide))
end V
