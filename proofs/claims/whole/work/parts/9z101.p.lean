-- part 101: a kind more
section V
variable {S S' : cSt} {M M' A : mSt} {ra : Nat → Nat} {sl : Nat → Int32} {mkO : Nat → Option Nat} {x0 n k : Nat} {l : List Nat} {L Wt : Nat → List Nat} {Bt Bt' : Nat} {ro fa : Nat → Nat} {W : Nat → Prop} {m1 f g : Nat → Int32}
/-- M with other numbers, parts and letters -/
def mu56 (m1 : Nat → Int32) (M : mSt) (f g : Nat → Int32) : mSt := (m1, fun j => if j = 6 then g else if j = 5 then f else M.2 j)
theorem mde_56 : mde (mu56 m1 M f g) = mde M := rfl
theorem cBk_56 {ch : Nat → Int32} {made : Nat → Prop} {bk : Nat} (h : cBk M ra sl ch made mkO S bk) : cBk (mu56 m1 M f g) ra sl ch made mkO S bk := h
theorem chF_56 : chF (mu56 m1 M f g) = chF M := rfl
theorem cl_56 (h : cl M l) : cl (mu56 m1 M f g) l := h
theorem rF_56 (hg : ∀ i, M.2 6 i ≠ 0 → g i = M.2 6 i) {r : Nat} (h : rF M mkO sl r) : rF (mu56 m1 M f g) mkO sl r := by
  obtain ⟨h1, h2, h3, h4, h5, h6, h7, h8⟩ := h
  refine ⟨h1, h2, h3, h4, h5, h6, fun q => ?_, h8⟩
  obtain ⟨j, m, kd, a1, a2, a3, a4, a5, a6, a7, a8, a9, a10, a11⟩ := h7 q
  refine ⟨j, m, kd, a1, a2, a3, a4, a5, a6, a7, a8, a9, a10, fun h0 => ?_⟩
  obtain ⟨p, p1, p2, p3⟩ := a11 h0
  refine ⟨p, p1, p2, ?_⟩
  show g (6 * kd + p) = _
  rw [hg _ (by rw [p3]; exact h0)]; exact p3
theorem rA_56 (hg : ∀ i, M.2 6 i ≠ 0 → g i = M.2 6 i) (h : rA M mkO sl) : rA (mu56 m1 M f g) mkO sl := by
  obtain ⟨h1, h2, h3, h4⟩ := h
  exact ⟨fun r hr => rF_56 hg (h1 r hr), h2, h3, h4⟩
theorem lsM_56 (hg : ∀ i, M.2 6 i ≠ 0 → g i = M.2 6 i) (h : lsM M n) : lsM (mu56 m1 M f g) n := by
  intro q hq
  rcases h q hq with h | ⟨h1, kd, p, h2, h3, h4, h5, h6⟩
  · exact Or.inl h
  · refine Or.inr ⟨h1, kd, p, h2, h3, h4, h5, ?_⟩
    show g (6 * kd + p) = 76
    rw [hg _ (by rw [h6]; decide)]; exact h6
theorem cLs_56 {nd : Nat} (hg : ∀ i, M.2 6 i ≠ 0 → g i = M.2 6 i) (h : cLs S M nd n) : cLs S (mu56 m1 M f g) nd n := by
  intro q hq
  rcases h q hq with h | ⟨h1, kd, p, h2, h3, h4, h5, h6, h7⟩
  · exact Or.inl h
  · refine Or.inr ⟨h1, kd, p, h2, h3, h4, h5, ?_, h7⟩
    show g (6 * kd + p) = 76
    rw [hg _ (by rw [h6]; decide)]; exact h6
theorem cNv_56 {nd bk : Nat} (h : cNv M ra sl S nd bk l) : cNv (mu56 m1 M f g) ra sl S nd bk l := h
theorem core_56 (hg : ∀ i, M.2 6 i ≠ 0 → g i = M.2 6 i) (h : core x0 Bt S M ra sl mkO L Wt) : core x0 Bt S (mu56 m1 M f g) ra sl mkO L Wt := by
  obtain ⟨⟨hA, hsl, htb, hB'⟩, ⟨hB, hBa⟩, hN, hz⟩ := h
  refine ⟨⟨rA_56 hg hA, hsl, htb, hB'⟩, ⟨cBk_56 hB, hBa⟩, fun n hn => ?_, hz⟩
  obtain ⟨⟨⟨⟨-, h2, h3, h4⟩, h5, h6, h7, h8⟩, ⟨⟨c1, c2, c3⟩, c4⟩⟩, ⟨w1, w2, w3⟩, h9⟩ := hN n hn
  exact ⟨⟨⟨⟨rA_56 hg hA, cl_56 h2, h3, h4⟩, h5, lsM_56 hg h6, h7, h8⟩, ⟨⟨c1, cNv_56 c2, cLs_56 hg c3⟩, c4⟩⟩, ⟨w1, w2, w3⟩, h9⟩
end V
