-- part 105: a row made: all that is kept
section V
variable {S S' : cSt} {M M' A : mSt} {ra : Nat → Nat} {sl : Nat → Int32} {mkO : Nat → Option Nat} {L Wt : Nat → List Nat} {ro fa : Nat → Nat} {x0 n j k : Nat} {s o p v w : Int32}
theorem c_k : lC_k x0 (Inv x0 k) := fun S M h => by
  obtain ⟨ra, sl, mkO, L, Wt, ro, fa, hc, hh, -⟩ := h
  exact hh.1.1
/-- the next free cell may be later -/
theorem c_z : lC_z (Inv x0 k) := fun S M n h hn => by
  obtain ⟨ra, sl, mkO, L, Wt, ro, fa, hc, hh, hkd, hth, htx, hro, hl, hnu⟩ := h
  have hz : kZ (cZn S n) = n := rfl
  refine ⟨ra, sl, mkO, L, Wt, ro, fa, ?_, hh, hkd, hth, ?_, hro, ?_, hnu⟩
  · obtain ⟨h1, h2, h3, h4, h5⟩ := hc
    exact ⟨h1, h2, h3, by rw [hz]; omega, fun r hr => by rw [hz]; have := h5 r hr; omega⟩
  · obtain ⟨h1, tb, h2, h3, h4, h5, h6⟩ := htx
    exact ⟨h1, tb, h2, h3, h4, by rw [hz]; omega, h6⟩
  · obtain ⟨h1, h2, nf, w, g1, g2, g3, g4, g5, g6, g7⟩ := hl
    refine ⟨h1, h2, nf, w, g1, g2, g3, g4, g5, g6, fun i hi => ?_⟩
    obtain ⟨y1, wa, ta, y2, y3, y4, y5, y6, y7, y8, y9, y10, y11, y12, y13⟩ := g7 i hi
    exact ⟨y1, wa, ta, y2, y3, y4, y5, by rw [hz]; omega, y7, by rw [hz]; omega, y9, by rw [hz]; omega, y11, y12, y13⟩
/-- a row made at both, and all kept -/
theorem Inv_make {k' : Nat} (hc : core x0 (1000 * k) S M ra sl mkO L Wt) (hh : hsI x0 S M) (hkd : kdI x0 S M) (ht : thI x0 S) (hx : txI x0 S ro) (hr : roI x0 S M ra ro) (hl : lnI x0 (1000 * k) S M ra mkO ro fa) (hnu : nuI M mkO (1000 * k)) (hkk : k ≤ k') (hk : k' < 900) (hn : n < 4) (hm : mdN M n < 250) (hd : dOk M mkO n (L n) j s o p v w) (hkn : s = 0 → ∀ kd, kd < 8 → v = Int32.ofNat kd → ∀ kn, kn ≤ 8 → M.1 4 = Int32.ofNat kn → kd < kn) (hdr : kF S (x0 + 19) 0 = s ∧ (s ≠ 0 → kF S (x0 + 19) 1 = Int32.ofNat j) ∧ kF S (x0 + 19) 2 = o ∧ kF S (x0 + 19) 3 = p ∧ kF S (x0 + 19) 4 = v ∧ kF S (x0 + 19) 5 = w) (hmk : ∀ i m, mkO i = some m → mkN2 mkO s j (250 * n + mdN M n) i = some m) : ∃ S' M', fk_7_make S (sN x0 n) (x0 + 19) = some (some (kZ S + 1), S') ∧ fm_make M (Int32.ofNat n) s o p v w = some (Int32.ofNat (rNm (250 * n + mdN M n)), M') ∧ Inv x0 k' S' M' ∧ kF S' (kZ S + 1) 11 = Int32.ofNat (rNm (250 * n + mdN M n)) ∧ kK S' (kZ S + 1) = 9 := by
  obtain ⟨S', M', h1, h2, h3, h4, h5, h6, ⟨h7, h7a, h7b, -⟩, h8, h9, h10, e9, e12, -⟩ := make_both hc hn hm hd ⟨hh.2.2.2.1.1, hdr⟩
  have hz := hc.2.2.2.1
  have hnew : ¬ mde M (250 * n + mdN M n) := fun q => by
    have := q.2
    have e1 : rN (250 * n + mdN M n) = n := by unfold rN; omega
    rw [e1] at this
    unfold rM at this; omega
  have hmd' : mde M' (250 * n + mdN M n) := (h8 _).mpr (Or.inr rfl)
  obtain ⟨-, k9, -, ⟨-, -, k11, -⟩, -⟩ := h3.2.1.1.2.2.1 _ hmd'.1 hmd'
  have hra : upd2 ra (250 * n + mdN M n) (kZ S + 1) (250 * n + mdN M n) = kZ S + 1 := by unfold upd2; rw [if_pos rfl]
  rw [hra] at k9 k11
  refine ⟨S', M', h1, h2, ?_, k11, k9⟩
  have eM : lvM M M' := by
    refine ⟨trivial, fun q hq => (h8 q).mpr (Or.inl hq), fun q hq => ?_, fun q hq => ?_, fun i _ => by rw [h9.2.2]⟩
    · by_cases c : mdN M q ≤ mdN M' q
      · exact c
      · have hb := (hc.1.1.2.2.1 q hq).1
        have hq' : mde M (250 * q + (mdN M q - 1)) := by
          refine ⟨by omega, ?_⟩
          have e1 : rN (250 * q + (mdN M q - 1)) = q := by unfold rN; omega
          rw [e1]; unfold rM; omega
        have := ((h8 _).mpr (Or.inl hq')).2
        have e1 : rN (250 * q + (mdN M q - 1)) = q := by unfold rN; omega
        rw [e1] at this
        unfold rM at this; omega
    · exact h9.1 q (fun e => hnew (by rw [← e]; exact hq))
  have out : ∀ a, (a ≤ x0 ∨ (x0 + 1 ≤ a ∧ a ≤ x0 + 5) ∨ (x0 + 10 ≤ a ∧ a ≤ x0 + 18) ∨ a = x0 + 20 ∨ a = x0 + 21 ∨ (x0 + 126 ≤ a ∧ a < kZ S)) → ¬ wMk x0 n (kZ S) a := fun a ha q => by
    unfold wMk inAp sN at q; omega
  have eC : lvC x0 S S' := by
    refine ⟨fun a ha => h5 a (out a (by unfold kp at ha; omega)), fun a ha => ?_, (h5 (x0 + 13) (out _ (by omega))).2.2.2.1, fun j _ => by rw [(h5 (x0 + 126) (out _ (by omega))).2.2.2.1], h7, by omega⟩
    by_cases c : a = x0 + 19
    · subst c; exact ⟨h7a, h7b⟩
    · exact ⟨(h5 a (out a (by omega))).1, (h5 a (out a (by omega))).2.1⟩
  have hmm : ∀ j m, mkO j = some m → mde M m := fun j m hj => (hc.1.1.2.1.1 j m hj).2.1
  have eR : lvR M ra (upd2 ra (250 * n + mdN M n) (kZ S + 1)) mkO (mkN2 mkO s j (250 * n + mdN M n)) := ⟨fun q hq => by unfold upd2; rw [if_neg (fun e => hnew (by rw [← e]; exact hq))], hmk, hmm⟩
  have fm : ∀ i, ¬ ((7 ≤ i ∧ i ≤ 16) ∨ wAp i) → M'.1 i = M.1 i ∧ M'.2 i = M.2 i := fun i hi => h4 i hi
  have hB' : core x0 (1000 * k') S' M' (upd2 ra (250 * n + mdN M n) (kZ S + 1)) (upd sl (250 * n + mdN M n) (Int32.ofNat j)) (mkN2 mkO s j (250 * n + mdN M n)) (updL L n (L n ++ [250 * n + mdN M n])) Wt := core_o h3 (fun k _ _ => rfl) (cEq_refl (fun _ => False) _) (fun a ha => ha.elim) (by omega) (by omega)
  refine ⟨_, _, _, _, _, fun a => if a < kZ S then ro a else 1, fa, hB', hsI_g hh eC (fm 45 (by unfold wAp wMid; decide)).1, kdI_g hkd eM (fun i hi => fm i (by unfold wAp wMid; omega)) (fun a ha => h5 a (out a (by omega))) (fun m kd g1 g2 g3 g4 g5 kn g6 g7 => ?_), thI_g ht eC, txI_g hx eC (fun a ha => if_pos ha), ?_, lnI_g hl eM eR (fun i hi => fm i (by unfold wAp wMid; omega)) eC (fun a ha => h5 a (out a (by omega))) (fun a ha => if_pos ha) (by omega), nuI_g hnu eM eR (by omega) (fm 21 (by unfold wAp wMid; decide)).2 (fm 22 (by unfold wAp wMid; decide)).2 (fm 31 (by unfold wAp wMid; decide)).2⟩
  · have hm' : m = 250 * n + mdN M n := ((h8 m).mp g1).resolve_left g2
    subst hm'
    rw [e9] at g3
    rw [e12] at g4
    exact hkn g3 kd g5 g4 kn g6 g7
  · intro q hq
    rcases (h8 q).mp hq with hq | hq
    · have e1 : upd2 ra (250 * n + mdN M n) (kZ S + 1) q = ra q := eR.1 q hq
      have hlt := hc.2.2.2.2 q hq
      show (if upd2 ra (250 * n + mdN M n) (kZ S + 1) q < kZ S then _ else 1) = 1 ∧ (if upd2 ra (250 * n + mdN M n) (kZ S + 1) q - 1 < kZ S then _ else 1) = 1
      rw [e1, if_pos hlt, if_pos (by omega)]
      exact hr q hq
    · subst hq
      show (if upd2 ra (250 * n + mdN M n) (kZ S + 1) (250 * n + mdN M n) < kZ S then _ else 1) = 1 ∧ (if upd2 ra (250 * n + mdN M n) (kZ S + 1) (250 * n + mdN M n) - 1 < kZ S then _ else 1) = 1
      rw [hra, if_neg (by omega), if_neg (by omega)]
      exact ⟨rfl, rfl⟩
end V
