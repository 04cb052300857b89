-- part 131: send
theorem snU_cg {m : Nat} : ∀ (R : List Nat) (f g : Nat → Int32), (∀ c, c < 16 → f c = g c) → ∀ c, c < 16 → snU m f R c = snU m g R c := by
  intro R
  induction R with
  | nil => intro f g h c hc; exact h c hc
  | cons r R ih =>
    intro f g h c hc
    unfold snU
    rw [List.foldl_cons, List.foldl_cons]
    refine ih _ _ (fun c hc => ?_) c hc
    by_cases e : c = 4 * m + rN r
    · rw [e, upd_s, upd_s]
    · rw [upd_o _ _ e, upd_o _ _ e]; exact h c hc
theorem snU_b {M : mSt} {m : Nat} (hm : m < 4) : ∀ (R : List Nat) (f : Nat → Int32), (∀ r ∈ R, mde M r) → (∀ m' q, m' < 4 → q < 4 → ∃ x, x ≤ mdN M q ∧ f (4 * m' + q) = Int32.ofNat x) → ∀ m' q, m' < 4 → q < 4 → ∃ x, x ≤ mdN M q ∧ snU m f R (4 * m' + q) = Int32.ofNat x := by
  intro R
  induction R with
  | nil => intro f _ h; exact h
  | cons r R ih =>
    intro f hR h
    unfold snU
    rw [List.foldl_cons]
    refine ih _ (fun x hx => hR x (List.mem_cons_of_mem _ hx)) (fun m' q hm' hq => ?_)
    have hr := hR r List.mem_cons_self
    have hn := rN_lt hr.1
    by_cases e : 4 * m' + q = 4 * m + rN r
    · have : q = rN r := by omega
      subst this
      exact ⟨rM r, hr.2, by rw [e, upd_s]⟩
    · rw [upd_o _ _ e]; exact h m' q hm' hq
section V
variable {S S' S0 S1 : cSt} {M M' A : mSt} {ra : Nat → Nat} {sl ch : Nat → Int32} {mkO : Nat → Option Nat} {L Wt : Nat → List Nat} {ro ro' fa fa' : Nat → Nat} {x0 n m k k' Bt nf w : Nat} {l : List Nat}
theorem own_mono (hA : rA M mkO sl) {l : List Nat} (hc : cl M l) : ∀ r ∈ l, ∀ r' ∈ l, rN r = rN r' → rM r < rM r' → rK M r < rK M r' := fun r hr r' hr' hn hlt => (hA.1 r' (cl_mem hc hr')).2.2.2.1 r (cl_mem hc hr) ((kn_own (hA.1 r' (cl_mem hc hr')) hn).mpr hlt)
theorem dsp (hI : Ib x0 k S M ra sl mkO L Wt ro fa) (hk : k < 900) (hn : n < 4) (hm : m < 4) (hmn : m ≠ n) {ask : Int32} (hask : ask = 0 ∨ ask = 1) (hw : w < 60) (h42 : M.1 42 = Int32.ofNat w) : ∃ S' M' ro' fa', fk_11_dispatch S x0 (Int32.ofNat n) (Int32.ofNat m) ask = some S' ∧ fm_start M (Int32.ofNat n) (Int32.ofNat m) ask = some M' ∧ Ib x0 k S' M' ra sl mkO L Wt ro' fa' := by
  have hI0 := hI
  obtain ⟨hc, hh, hkd, hth, htx, hro, hl, hnu⟩ := hI
  have hz133 := hc.2.2.2.1
  obtain ⟨hf, nf, w', g1, g3, hS, hF⟩ := ln_to hl
  have ew : w' = w := by have := hS.2.1; rw [g3] at h42; exact (jI_inj (by omega) (by omega)).mp h42
  subst ew
  obtain ⟨S1, ro1, fa1, nf1, o1, hS1, o2, o3, o4, o5, o6, o7, o8⟩ := k_open (w := w') hS hw g1 (hf.1.trans g3) hz133
  obtain ⟨f133, wa, ta, hLw, hr4, hrw, hrt, x6, x7, x8, x9, x10, x11, x12⟩ := hS1.2.2.2.2.2 w' (by omega)
  have inw := fr_in hS1 (by omega : w' < nf1) hLw
  obtain ⟨⟨hA, hsl, htb, hBt⟩, ⟨hB, hBa⟩, hN, -, hra⟩ := id hc
  obtain ⟨⟨hM1, hC1⟩, ⟨hw1, hw2, hw3⟩, hown⟩ := hN n hn
  obtain ⟨sx, hsx⟩ := sn_of hA hM1 hn hnu
  obtain ⟨⟨hy, hv', hls⟩, -, -, -, hs, hsn, hcu⟩ := hC1
  have hcl := hM1.1.2.1
  have hmd := fun q (hq : q < 4) => hA.2.2.1 q hq
  obtain ⟨hnu1, hnu2⟩ := hnu n hn
  have hst0 : ∃ st : Nat → Nat, ∀ q, q < 4 → st q ≤ mdN M q ∧ M.2 22 (16 * n + 4 * m + q) = Int32.ofNat (st q) := by
    obtain ⟨s0, a0, b0⟩ := (hnu1 m 0 hm (by decide)).2
    obtain ⟨s1, a1, b1⟩ := (hnu1 m 1 hm (by decide)).2
    obtain ⟨s2, a2, b2⟩ := (hnu1 m 2 hm (by decide)).2
    obtain ⟨s3, a3, b3⟩ := (hnu1 m 3 hm (by decide)).2
    refine ⟨fun q => if q = 0 then s0 else if q = 1 then s1 else if q = 2 then s2 else s3, fun q hq => ?_⟩
    have : q = 0 ∨ q = 1 ∨ q = 2 ∨ q = 3 := by omega
    rcases this with e | e | e | e <;> subst e
    · exact ⟨a0, b0⟩
    · exact ⟨a1, b1⟩
    · exact ⟨a2, b2⟩
    · exact ⟨a3, b3⟩
  obtain ⟨st, hst⟩ := hst0
  have hsm : ∀ q, q < 4 → M.2 21 (16 * n + 4 * m + q) = Int32.ofNat (sx m q) := fun q hq => by
    have := (hsx m q hm hq).1
    unfold snV at this
    rw [if_neg hmn] at this; exact this
  obtain ⟨R, hR⟩ : ∃ R, R = if ask = 0 then (srt (rK M) ((L n).filter (elg (fun q => max (sx m q) (st q))))).take 8 else [] := ⟨_, rfl⟩
  obtain ⟨M2, G, q1, q2, q3, q4, q5, q6, q7, q8, q9⟩ := m_start hA.2.2.2 hw g3 hn hm hmn hM1.1.2.2.1 hM1.1.2.2.2 (kInj_cl hA hcl) (b := fun q => max (sx m q) (st q)) (sx := sx m) (st := st) (fun q hq => ⟨rfl, (hsx m q hm hq).2, by have := (hst q hq).1; have := (hmd q hq).1; omega, hsm q hq, (hst q hq).2⟩) hask hR
  have hRm : ∀ r ∈ R, r ∈ L n := fun r hr => by
    rw [hR] at hr
    rcases hask with e | e
    · rw [if_pos e] at hr
      exact (List.mem_filter.mp ((perm_srt _ _).mem_iff.mp (List.mem_of_mem_take hr))).1
    · rw [if_neg (by rw [e]; decide)] at hr; cases hr
  have hR8 : R.length ≤ 8 := by
    rw [hR]
    rcases hask with e | e
    · rw [if_pos e, List.length_take]; omega
    · rw [if_neg (by rw [e]; decide)]; exact Nat.zero_le _
  -- the class
  have hsN : x0 + 22 ≤ sN x0 n ∧ sN x0 n + 26 ≤ x0 + 126 := by unfold sN; omega
  generalize hnd : sN x0 n = nd at *
  generalize hff : fa1 w' = f at *
  have hy1 : cNy S1 nd (x0 + 5) n := cNy_sm hy (cSm_mono o3 (fun a ha => ⟨by omega, by omega, by omega⟩))
  obtain ⟨S8, b1, b2, b3, b4, b5, b6, b7⟩ := k_frBegin (m := m) hy1 hn hask hLw (by omega)
  have d0 := o3 x0 ⟨by omega, by omega, by omega⟩
  have d10 := o3 (x0 + 10) ⟨by omega, by omega, by omega⟩
  have sepw : ∀ a, (x0 + 133 ≤ a → ro1 a ≠ f) → a ≠ f ∧ a ≠ f + 1 ∧ a ≠ f + 2 ∧ a ≠ f + 3 ∧ a ≠ wa ∧ a ≠ ta := fun a ha => by
    by_cases q : x0 + 133 ≤ a
    · have := ha q
      exact ⟨fun e => this (inw a (by omega)).1, fun e => this (inw a (by omega)).1, fun e => this (inw a (by omega)).1, fun e => this (inw a (by omega)).1, fun e => this (inw a (by omega)).1, fun e => this (inw a (by omega)).1⟩
    · omega
  have c8 : cSm (fun a => a < kZ S1 ∧ (x0 + 133 ≤ a → ro1 a ≠ f)) S1 S8 := cSm_eq b2 (fun a ha q => by have := sepw a ha.2; omega)
  have c18 : cSm (fun a => a < kZ S ∧ a ≠ x0 + 11 ∧ a ≠ x0 + 12 ∧ (x0 + 133 ≤ a → ro1 a ≠ f)) S S8 := cSm_trans (cSm_mono o3 (fun a ha => ⟨ha.1, ha.2.1, ha.2.2.1⟩)) (cSm_mono c8 (fun a ha => ⟨by have := ha.1; omega, ha.2.2.2⟩))
  have rowlab : ∀ r, mde M r → ∀ a, (a = ra r ∨ a + 1 = ra r) → a < kZ S ∧ a ≠ x0 + 11 ∧ a ≠ x0 + 12 ∧ (x0 + 133 ≤ a → ro1 a ≠ f) ∧ x0 + 133 ≤ a := fun r hr a ha => by
    have hlt := hra r hr
    have hgt := hB.1.2.2.2.2.2 r hr
    obtain ⟨h3, h4⟩ := hro r hr
    refine ⟨by omega, by omega, by omega, fun _ => ?_, by omega⟩
    rw [o7 a (by omega)]
    rcases ha with e | e
    · rw [e, h3]; omega
    · rw [show a = ra r - 1 by omega, h4]; omega
  have hB8 : cBk M ra sl (chF M sl) (mde M) mkO S8 (x0 + 5) := cBk_sm hB (cSm_mono c18 (fun a ha => by
    rcases ha with ha | ⟨r, hr, ha⟩
    · exact ⟨by omega, by omega, by omega, fun q => by omega⟩
    · have := rowlab r hr a ha; exact ⟨this.1, this.2.1, this.2.2.1, this.2.2.2.1⟩))
  have hy8 : cNy S8 nd (x0 + 5) n := cNy_eq' hy1 b2 (by omega)
  have l3 := hLw.2.1
  have kI5 : kI S8 (nd + 5) = kI S (nd + 5) := (c18 (nd + 5) ⟨by omega, by omega, by omega, fun q => by omega⟩).2.2.2.2.1
  have kI6 : kI S8 (nd + 6) = kI S (nd + 6) := (c18 (nd + 6) ⟨by omega, by omega, by omega, fun q => by omega⟩).2.2.2.2.1
  have kI7 : kI S8 (nd + 7) = kI S (nd + 7) := (c18 (nd + 7) ⟨by omega, by omega, by omega, fun q => by omega⟩).2.2.2.2.1
  have kI51 : kI S1 (nd + 5) = kI S (nd + 5) := (o3 (nd + 5) ⟨by omega, by omega, by omega⟩).2.2.2.2.1
  have kI61 : kI S1 (nd + 6) = kI S (nd + 6) := (o3 (nd + 6) ⟨by omega, by omega, by omega⟩).2.2.2.2.1
  have kI71 : kI S1 (nd + 7) = kI S (nd + 7) := (o3 (nd + 7) ⟨by omega, by omega, by omega⟩).2.2.2.2.1
  have ld0 : ldS S8 S8 ra f nd m [] := ⟨cEq_refl _ _, rfl, rfl, fun _ _ => rfl, b5.2.2.2.1, fun i hi => absurd hi (by simp), fun c hc => rfl, rfl, rfl, rfl, rfl, rfl, rfl, rfl⟩
  have hload : ∃ S', fk_11_dispatch S x0 (Int32.ofNat n) (Int32.ofNat m) ask = some S' ∧ ldS S8 S' ra f nd m R := by
    have k12 : kK S1 x0 = 12 := by rw [d0.1]; exact hh.1.1
    have k2 : kR S1 x0 2 = some (x0 + 10) := by rw [d0.2.2.2.1]; exact hh.1.2.2.2.1
    have k31 : kK S1 (x0 + 10) = 31 := by rw [d10.1]; exact hh.2.2.1.1
    have l4 : kL S1 (x0 + 10) = 4 := by rw [d10.2.1]; exact hh.2.2.1.2.1
    have ko : kO S1 (x0 + 10) n = some nd := by rw [d10.2.2.2.2.2, ← hnd]; exact hh.2.2.1.2.2 n hn
    have e12 : kK S8 x0 = 12 := by rw [b2.1]; exact k12
    have e2 : kR S8 x0 2 = some (x0 + 10) := by rw [b3]; exact k2
    have e31 : kK S8 (x0 + 10) = 31 := by rw [b2.1]; exact k31
    have el4 : kL S8 (x0 + 10) = 4 := by rw [b2.2.1]; exact l4
    have eko : kO S8 (x0 + 10) n = some nd := by rw [b4]; exact ko
    unfold fk_11_dispatch fk_11_dispatch_37
    rw [ckk_y hh.1.1, hh.1.2.2.2.2.1, bd_s, ckk_y hl.1.1, o1, bd_s, lt_d, lt_d]
    show ∃ S', ckk S1 x0 12 _ = _ ∧ _
    rw [ckk_y k12, k2, bd_s, ckk_y k31, l4, ck_n hn (by omega), lt_d, jI_cl (by omega), ko, bd_s, bd_s, ckk_y hLw.1.1, b1, bd_s]
    rcases hask with ea | ea
    · rw [if_pos ea] at hR
      have hstq : ∀ q, q < 4 → kI S8 (nd + 6) (4 * m + q) = Int32.ofNat (st q) ∧ st q ≤ 250 := fun q hq => by
        rw [kI6, hsn _ (by omega), show 16 * n + (4 * m + q) = 16 * n + 4 * m + q by omega]
        have := (hmd q hq).1
        exact ⟨(hst q hq).2, Nat.le_trans (hst q hq).1 this⟩
      have bkT : ∀ T, cEq (fun a => a = f ∨ a = f + 3 ∨ a = nd + 6) S8 T → cBk M ra sl (chF M sl) (mde M) mkO T (x0 + 5) := fun T eT => cBk_sm hB8 (cSm_eq eT (fun a ha q => by
        rcases ha with ha | ⟨r, hr, ha⟩
        · omega
        · have h1 := rowlab r hr a ha
          have h2 := sepw a h1.2.2.2.1
          omega))
      have hmdr : ∀ q y, q < 4 → y < sx n q → mde M (250 * q + y) := fun q y hq hy' => by
        have hb := (hsx n q hn hq).2
        have n0 : rN (250 * q + y) = q := by unfold rN; omega
        have m0 : rM (250 * q + y) = y + 1 := by unfold rM; omega
        exact cl_mem hcl ((kn_sx hsx hn hM1.2.1 (by omega)).mpr (by rw [n0, m0]; omega))
      obtain ⟨S', s1, s2⟩ := k_load (S0 := S8) (bk := x0 + 5) (n := n) (m := m) (f := f) (nd := nd) (ra := ra) (sl := sl) (ch := chF M sl) (l := L n) (kn := sx n) (sx := sx m) hA.2.2.2 hm hy8 hB8.1.1 (by rw [b2.1]; exact hLw.1.1) b5.2.1 (by rw [b3]; exact hLw.1.2.2.2.1) ⟨by rw [b2.1]; exact l3.2.2.2.2.1, by rw [b2.2.1]; exact l3.2.2.2.2.2⟩ ⟨⟨by omega, by omega⟩, by omega, by omega, by omega⟩ (fun q hq => by rw [kI5, hs m q hm hq]; exact hsx m q hm hq) (fun T eT q hq => by
          have hyT : cNy T nd (x0 + 5) n := cNy_eq' hy8 eT (by omega)
          exact ⟨k_knownOf hn hyT (fun m' q' hm' hq' => by rw [(eT.2.2.2.2 (nd + 5) (by omega)).2.2.1, kI5, hs m' q' hm' hq']; exact (hsx m' q' hm' hq').1) hq, (hsx n q hn hq).2⟩) (fun T eT q y hq hy' => by
          have h1 := hmdr q y hq hy'
          have h2 := (bkT T eT).2.2.1 _ h1.1 h1
          refine ⟨?_, h2.2⟩
          rw [k_rowNamed (bkT T eT), rOf_nm h1.1]; exact congrArg some h2.1) (fun q y hq hy' => by
          have h1 := hmdr q y hq hy'
          have h2 := rowlab _ h1 (ra (250 * q + y)) (Or.inl rfl)
          have h3 := sepw _ h2.2.2.2.1
          exact ⟨h3.1, h3.2.2.2.1, by omega⟩) (fun r hr => kn_sx hsx hn hM1.2.1 hr) (fun r hr => (cl_mem hcl hr).1) (kInj_cl hA hcl) (own_mono hA hcl) 8 0 mFU S8 [] st rfl (by decide) rfl ld0 hstq
      rw [List.nil_append, ← hR] at s2
      have s1' : fk_7_load_2 mFU S8 nd f 0 = some S' := s1
      rw [if_pos ea, ckk_y e12, e2, bd_s, ckk_y e31, el4, ck_n hn (by omega), lt_d, eko, bd_s, ckk_y hy8.1.1]
      unfold fk_7_load
      rw [s1', bd_s]
      exact ⟨S', rfl, s2⟩
    · have ea' : ¬ ask = 0 := by rw [ea]; decide
      rw [if_neg ea'] at hR
      rw [if_neg ea', hR]
      exact ⟨S8, rfl, ld0⟩
  obtain ⟨S2, p1, p2⟩ := hload
  obtain ⟨e, e1, e1', e2, e3, e4, e5, e6⟩ := p2
  refine ⟨S2, M2, ?_⟩
  -- first the frame alone
  generalize hSa : sI S2 (nd + 6) (kI S (nd + 6)) = Sa
  generalize hMa : pu (mu M2 22 (M.2 22)) 22 (M.1 22) = Ma
  have ma2 : ∀ j, j ≠ 22 → Ma.1 j = M2.1 j ∧ Ma.2 j = M2.2 j := fun j hj => by
    rw [← hMa]
    exact ⟨by rw [pu_o _ _ hj]; rfl, by rw [pu_2, mu_ne _ _ hj]⟩
  have ma22 : Ma.1 22 = M.1 22 ∧ Ma.2 22 = M.2 22 := by
    rw [← hMa]
    exact ⟨pu_s _ _ _, by rw [pu_2, mu_same]⟩
  have eMa : mEx (fun j => j = 0 ∨ j = 42 ∨ 46 ≤ j) M Ma := fun j hj => by
    by_cases e : j = 22
    · subst e; exact ma22
    · obtain ⟨h1, h2⟩ := ma2 j e
      obtain ⟨h3, h4⟩ := q2 j (by omega)
      exact ⟨h1.trans h3, h2.trans h4⟩
  have rMa : rEq M Ma := fun k h1 h2 => (eMa k (by omega)).2
  have sK : ∀ a, kK Sa a = kK S8 a ∧ kL Sa a = kL S8 a := fun a => by rw [← hSa]; exact ⟨e.1 a, e.2.1 a⟩
  have sR : ∀ a, kR Sa a = kR S2 a ∧ kF Sa a = kF S2 a ∧ kO Sa a = kO S2 a := fun a => by rw [← hSa]; exact ⟨rfl, rfl, rfl⟩
  have sI6 : kI Sa (nd + 6) = kI S (nd + 6) := by rw [← hSa, kI_sI]
  have sIo : ∀ a, a ≠ nd + 6 → kI Sa a = kI S2 a := fun a ha => by rw [← hSa, kI_sIo _ _ ha]
  have sZ : kZ Sa = kZ S1 := by rw [← hSa]; show kZ S2 = _; rw [e.2.2.1, b2.2.2.1]
  have sT : ∀ i, kT Sa i = kT S1 i := fun i => by rw [← hSa]; show kT S2 i = _; rw [e.2.2.2.1, b2.2.2.2.1]
  have c2 : cSm (fun a => a < kZ S1 ∧ (x0 + 133 ≤ a → ro1 a ≠ f)) S1 Sa := fun a ha => by
    have h1 := c8 a ha
    have h2 := sepw a ha.2
    by_cases e6' : a = nd + 6
    · rw [e6'] at h1 ⊢
      refine ⟨(sK _).1.trans h1.1, (sK _).2.trans h1.2.1, ?_, ?_, by rw [sI6, kI61], ?_⟩
      · rw [(sR _).2.1, e6.2.2.2.2.1]; exact h1.2.2.1
      · rw [(sR _).1, e1']; exact h1.2.2.2.1
      · rw [(sR _).2.2, e6.2.2.2.1]; exact h1.2.2.2.2.2
    · have h3 := e.2.2.2.2 a (by omega)
      refine ⟨(sK _).1.trans h1.1, (sK _).2.trans h1.2.1, ?_, ?_, ?_, ?_⟩
      · rw [(sR _).2.1, h3.1]; exact h1.2.2.1
      · rw [(sR _).1, h3.2.1]; exact h1.2.2.2.1
      · rw [sIo a e6', h3.2.2.1]; exact h1.2.2.2.2.1
      · rw [(sR _).2.2, h3.2.2.2]; exact h1.2.2.2.2.2
  have hGw : ∀ q, q < 640 → gF Ma w' q = G q := fun q hq => by
    show Ma.2 46 _ = _
    rw [(ma2 46 (by decide)).2]; exact q4 q hq
  obtain ⟨y1, y2, y3, y4, y5, y6⟩ := q6
  have hLa : fLy Sa f wa ta := by
    unfold fLy
    simp only [(sK _).1, (sK _).2, (sR f).1, e1, b3, b2.1, b2.2.1]
    exact hLw
  have hCoG : fCo Sa Ma ra mkO (1000 * k) f G := by
    refine ⟨⟨by rw [(sR f).2.1, e2 3 (by decide), y1]; exact b5.1, by rw [(sR f).2.1, e2 4 (by decide), y2]; exact b5.2.1, by rw [(sR f).2.1, e2 5 (by decide), y3]; exact b5.2.2.1, by rw [(sR f).2.1, q7.1]; exact e3⟩, ⟨n, m, hn, hm, fun q => hmn q.symm, y1, y2⟩, by rw [y3]; exact hask, fun q hq => ⟨?_, ?_⟩, fun c hc => ?_, fun m' hm' => ?_, R.length, hR8, q7.1, fun i hi => ?_⟩
    · rw [sIo _ (by omega), (e.2.2.2.2 (f + 1) (by omega)).2.2.1, b6 q hq, kI51, hs n q hn hq, y4 q hq]
      unfold snV; rw [if_pos rfl]
    · rw [y4 q hq, mdN_r rMa]; exact hM1.2.2.2.1 q hq
    · rw [sIo _ (by omega), (e.2.2.2.2 (f + 2) (by omega)).2.2.1, b7 c hc, kI71, hcu c hc, y5 c hc]
    · have := hnu2 m' hm'
      rw [y5 (4 * m') (by omega), show 17 + 4 * m' = 16 + (4 * m' + 1) by omega, show 18 + 4 * m' = 16 + (4 * m' + 2) by omega, show 19 + 4 * m' = 16 + (4 * m' + 3) by omega, y5 (4 * m' + 1) (by omega), y5 (4 * m' + 2) (by omega), y5 (4 * m' + 3) (by omega)]
      exact cuI_r rMa (Nat.le_refl _) this
    · refine ⟨R[i], ?_, q7.2 i hi, by rw [(sR _).2.2]; exact e4 i hi⟩
      rw [mde_r rMa]; exact cl_mem hcl (hRm _ (List.getElem_mem hi))
  have hlenG := frL_len Ma G hR8 q7.1
  have hByG : fBy Sa Ma f wa ta G := by
    have z : ∀ i, i < (frL Ma G).length → G (32 + i) = 0 := fun i hi => y6 _ (by omega) (by omega)
    refine ⟨fun i h1 h2 => y6 i (by omega) h2, fun i hi => ⟨0, by decide, z i hi⟩, ?_, Or.inl ⟨by rw [(sR f).2.1, e2 7 (by decide)]; exact b5.2.2.2.2.1, z⟩⟩
    rw [(sR f).2.1, e2 8 (by decide), b5.2.2.2.2.2, cnt_z (fun i hi => by show decide (G (32 + i) ≠ 0) = false; rw [z i hi]; decide)]; rfl
  obtain ⟨ro2, hfin⟩ := Ib_close (k' := k) (M2 := Ma) (S2 := Sa) hI0 (Nat.le_refl _) hk g3 hw hS1 o2 o3 o4 o5 o6 o7 o8 (by rw [hff]; exact c2) (by rw [sZ]; exact Nat.le_refl _) sT eMa (by rw [(ma2 42 (by decide)).1]; exact q3) (fun i q hi hq => by rw [(ma2 46 (by decide)).2]; exact q5 _ (by omega)) ⟨wa, ta, by rw [hff]; exact hLa, fun _ => by rw [hff]; exact hrw, fun _ => by rw [hff]; exact hrt, x7, by rw [sZ]; exact x8, x9, by rw [sZ]; exact x10, by rw [hff]; exact x11, by rw [hff]; exact x12, by rw [hff]; exact fCo_c (fun c hc => hGw c hc) hCoG, by rw [hff]; exact fBy_c (fun c hc => hGw c hc) hR8 q7.1 hByG⟩
  -- then what was sent
  refine ⟨ro2, fa1, p1, q1, ?_⟩
  have eSa : cEq (fun a => a = sN x0 n + 5 ∨ a = sN x0 n + 6 ∨ a = sN x0 n + 7) Sa S2 := by
    rw [hnd]
    refine ⟨fun a => by rw [← hSa]; rfl, fun a => by rw [← hSa]; rfl, by rw [← hSa]; rfl, fun i => by rw [← hSa]; rfl, fun a ha => ⟨(sR a).2.1.symm, (sR a).1.symm, (sIo a (by omega)).symm, (sR a).2.2.symm⟩⟩
  have i5 : kI S2 (nd + 5) = kI S (nd + 5) := by rw [(e.2.2.2.2 (nd + 5) (by omega)).2.2.1, kI5]
  have i7 : kI S2 (nd + 7) = kI S (nd + 7) := by rw [(e.2.2.2.2 (nd + 7) (by omega)).2.2.1, kI7]
  have f2 : ∀ j, j ≠ 22 → j ≠ 42 → j ≠ 46 → M2.2 j = M.2 j := fun j h1 h2 h3 => (q2 j (by omega)).2
  refine Ib_nd hfin (Nat.le_refl _) hk hn eSa (fun j hj => ⟨(ma2 j (by omega)).1.symm, (ma2 j (by omega)).2.symm⟩) (fun j hj q hq => ?_) ?_ ?_ ?_ ⟨fun m' q hm' hq => ⟨?_, ?_⟩, fun m' hm' => ?_⟩
  · by_cases ej : j = 22
    · subst ej; rw [ma22.2]; exact q9 q hq
    · rw [(ma2 j ej).2]
  · rw [hnd]
    intro m' q hm' hq
    rw [i5, hs m' q hm' hq]
    unfold snV
    rw [f2 20 (by decide) (by decide) (by decide), f2 21 (by decide) (by decide) (by decide)]
  · rw [hnd]
    intro c hc
    rw [e5 c hc, q8 c hc]
    exact snU_cg R _ _ (fun c hc => by rw [kI6]; exact hsn c hc) c hc
  · rw [hnd]
    intro c hc
    rw [i7, f2 31 (by decide) (by decide) (by decide)]; exact hcu c hc
  · rw [mdN_r rMa, f2 21 (by decide) (by decide) (by decide)]; exact (hnu1 m' q hm' hq).1
  · rw [mdN_r rMa, show 16 * n + 4 * m' + q = 16 * n + (4 * m' + q) by omega, q8 _ (by omega)]
    exact snU_b hm R _ (fun r hr => cl_mem hcl (hRm r hr)) (fun m' q hm' hq => by
      have := (hnu1 m' q hm' hq).2
      rw [show 16 * n + 4 * m' + q = 16 * n + (4 * m' + q) by omega] at this; exact this) m' q hm' hq
  · rw [f2 31 (by decide) (by decide) (by decide)]
    exact cuI_r rMa (Nat.le_refl _) (hnu2 m' hm')
theorem c_send (hk : k + 1 < 900) : lC_send x0 (Inv x0 k) (Inv x0 (k + 1)) := by
  intro S M v1 v2 v3 h h3
  have h0 := Inv_0 h (by omega)
  unfold fk_11_send fm_send fk_11_send_29 fm_send_37
  rw [lt_d, k_isNode, bd_s, k_isNode, bd_s, m_wb, m_wb, ckz_0, ckz_0]
  generalize pu M 0 0 = A at h0 ⊢
  have h1 := Inv_1 h0 hk
  obtain ⟨ra, sl, mkO, L, Wt, ro, fa, hIb⟩ := h0
  have hIb : Ib x0 k S A ra sl mkO L Wt ro fa := hIb
  obtain ⟨hc, hh, hkd, hth, htx, hro, hl, hnu⟩ := id hIb
  by_cases hv : 0 ≤ v1 ∧ v1 ≤ 3
  · obtain ⟨n, hn, rfl⟩ := wi3.mp hv
    rw [b2_t hv, if_neg n10, if_neg n10]
    by_cases hv2 : 0 ≤ v2 ∧ v2 ≤ 3
    · obtain ⟨m, hm, rfl⟩ := wi3.mp hv2
      rw [b2_t hv2, if_neg n10, if_neg n10]
      by_cases e : n = m
      · rw [if_pos (by rw [e]), if_pos (by rw [e])]
        exact ⟨_, _, _, rfl, rfl, h1⟩
      · have e' : ¬ Int32.ofNat n = Int32.ofNat m := fun q => e ((jI_inj (by omega) (by omega)).mp q)
        obtain ⟨hf, nf, w, g1, g3, hS, hF⟩ := ln_to hl
        have hnf := hS.2.1
        rw [if_neg e', if_neg e', ckk_y hh.1.1, hh.1.2.2.2.2.1, bd_s, ckk_y hl.1.1, k_isFull hl.1.1 (hf.1.trans g3) (by omega), bd_s, g3]
        by_cases c60 : w = 60
        · rw [b2_t c60, if_neg n10, if_pos (show Int32.ofNat w = 60 by rw [c60]; rfl)]
          exact ⟨_, _, _, rfl, rfl, h1⟩
        · obtain ⟨S2, M2, ro2, fa2, p1, p2, p3⟩ := dsp hIb (by omega) hn hm (fun q => e q.symm) h3 (by omega : w < 60) g3
          rw [b2_f c60, if_pos rfl, if_neg (jN 60 60 rfl c60 (by omega) (by decide)), ckk_y hh.1.1, p1, bd_s, ckz_1, p2, bd_s, ckz_1]
          exact ⟨_, _, _, rfl, rfl, Inv_1 (Inv_b p3) hk⟩
    · rw [b2_f hv2, if_pos rfl, if_pos rfl]
      exact ⟨_, _, _, rfl, rfl, h1⟩
  · rw [b2_f hv, if_pos rfl, if_pos rfl]
    exact ⟨_, _, _, rfl, rfl, h1⟩
end V
