-- part 154: what the constructor leaves is what is kept
/-- the cells of a node at p -/
def ndCl (p n : Nat) : List Cl := [(8, 0, [(0, Int32.ofNat n), (11, 0), (10, 0), (9, 0), (8, 0)], [(2, p + 20), (1, p + 12), (12, 5), (16, p + 11), (15, p + 10), (14, p + 9), (13, p + 8), (7, p + 7), (6, p + 6), (5, p + 5), (4, p + 3), (3, p + 1)], []), (7, 0, [(2, 250), (1, 3), (0, 0)], [(3, p + 2)], []), (20, 750, [], [], []), (7, 0, [(2, 200), (1, 4), (0, 0)], [(3, p + 4)], []), (20, 800, [], [], []), (20, 16, [], [], []), (20, 16, [], [], []), (20, 16, [], [], []), (30, 30, [], [], []), (20, 48, [], [], []), (20, 48, [], [], []), (20, 16, [], [], []), (5, 0, [(7, 0)], [(8, 5), (6, p + 19), (5, p + 18), (4, p + 17), (3, p + 16), (2, p + 15), (1, p + 14), (0, p + 13)], []), (20, 1000, [], [], []), (20, 1000, [], [], []), (20, 1000, [], [], []), (30, 1000, [], [], []), (30, 1000, [], [], []), (30, 385, [], [], []), (30, 385, [], [], []), (11, 0, [(8, 1000)], [(2, p + 15), (7, p + 12), (1, 5), (6, p + 25), (5, p + 24), (4, p + 23), (3, p + 22), (0, p + 21)], []), (30, 4, [], [], []), (20, 4, [], [], []), (20, 256, [], [], []), (30, 64, [], [], []), (20, 5, [], [], [])]
section V
variable {S0 S : cSt} {x0 p n : Nat}
theorem mS0_2 (k i : Nat) : mS0.2 k i = 0 := rfl
theorem mdN0 (q : Nat) : mdN mS0 q = 0 := rfl
theorem mde0 (r : Nat) : ¬ mde mS0 r := fun h => by
  have := h.2
  rw [mdN0] at this
  unfold rM at this; omega
theorem gd0 (r : Nat) : gd mS0 [] r = true := rfl
theorem rA0 (sl : Nat → Int32) : rA mS0 (fun _ => none) sl := by
  refine ⟨fun r h => absurd h (mde0 r), ⟨fun _ _ h => (by cases h), fun _ _ _ h => (by cases h), fun _ _ _ _ _ h => (by cases h)⟩, fun q _ => ⟨by rw [mdN0]; omega, rfl⟩, fun r _ => ⟨by rw [mS0_2]; decide, by rw [mS0_2]; decide, by rw [mS0_2]; decide, by rw [mS0_2]; decide⟩⟩
theorem chL0 (ch : Nat → Int32) (c : Nat) : chL mS0 ch [] c = [] := rfl
theorem nd_start (hn : n < 4) (hs : sN x0 n = x0 + p) (hC : ∀ i (hi : i < (ndCl p n).length), clO x0 S (x0 + (p + i)) (ndCl p n)[i]) (sl : Nat → Int32) (ra : Nat → Nat) : (nM mS0 (fun _ => none) sl n [] ∧ nC S mS0 ra sl x0 n []) ∧ (mWt mS0 n [] ∧ nW S ra x0 n [] ∧ wOk mS0 [] []) ∧ ∀ q, mde mS0 q → rN q = n → q ∈ ([] : List Nat) := by
  have hp : ∀ i, sN x0 n + i = x0 + (p + i) := fun i => by omega
  have K : ∀ i (hi : i < (ndCl p n).length), kK S (sN x0 n + i) = (ndCl p n)[i].1 := fun i hi => by rw [hp]; exact (hC i hi).1
  have Ln : ∀ i (hi : i < (ndCl p n).length), kL S (sN x0 n + i) = (ndCl p n)[i].2.1 := fun i hi => by rw [hp]; exact (hC i hi).2.1
  have F : ∀ i j (hi : i < (ndCl p n).length), kF S (sN x0 n + i) j = ((ndCl p n)[i].2.2.1.lookup j).getD 0 := fun i j hi => by rw [hp]; exact (hC i hi).2.2.1 j
  have R : ∀ i j t (hi : i < (ndCl p n).length), (ndCl p n)[i].2.2.2.1.lookup j = some (p + t) → kR S (sN x0 n + i) j = some (sN x0 n + t) := fun i j t hi h => by rw [hp, (hC i hi).2.2.2.1 j, h, hp]; rfl
  have R5 : ∀ i j t (hi : i < (ndCl p n).length), (ndCl p n)[i].2.2.2.1.lookup j = some t → kR S (sN x0 n + i) j = some (x0 + t) := fun i j t hi h => by rw [hp, (hC i hi).2.2.2.1 j, h]; rfl
  have I0 : ∀ i j (hi : i < (ndCl p n).length), kI S (sN x0 n + i) j = 0 := fun i j hi => by rw [hp]; exact (hC i hi).2.2.2.2.1 j
  have O0 : ∀ i j (hi : i < (ndCl p n).length), (ndCl p n)[i].2.2.2.2 = [] → kO S (sN x0 n + i) j = none := fun i j hi h => by rw [hp, (hC i hi).2.2.2.2.2 j, h]; rfl
  have L26 : (ndCl p n).length = 26 := rfl
  have b : ∀ i, i < 26 → i < (ndCl p n).length := fun i h => h
  refine ⟨⟨⟨⟨rA0 sl, fun i h => absurd h (by simp), ⟨hn, by simp, fun i h => absurd h (by simp)⟩, rfl⟩, ⟨hn, fun r hr => ⟨fun q => ?_, fun q => absurd q (by simp)⟩⟩, fun q _ => Or.inl rfl, fun q _ => ⟨0, Nat.zero_le _, rfl⟩, ⟨0, 0, rfl, rfl, by decide, by decide, fun r h => absurd h (by simp), Or.inl ⟨rfl, rfl⟩⟩⟩, ?_⟩, ⟨⟨by simp, rfl, fun i h => absurd h (by simp)⟩, ⟨F 0 11 (b 0 (by decide)), fun i h => absurd h (by simp)⟩, ⟨List.nodup_nil, fun r h => absurd h (by simp)⟩⟩, fun q h _ => absurd h (mde0 q)⟩
  · have := rM_le r
    have q : Int32.ofNat (rM r) ≤ Int32.ofNat 0 := q
    have := (jI_le (by omega) (by omega)).mp q
    omega
  · refine ⟨⟨⟨⟨K 0 (b 0 (by decide)), F 0 0 (b 0 (by decide)), R 0 1 12 (b 0 (by decide)) rfl, R 0 2 20 (b 0 (by decide)) rfl, R 0 3 1 (b 0 (by decide)) rfl, R 0 4 3 (b 0 (by decide)) rfl, R 0 5 5 (b 0 (by decide)) rfl, R 0 6 6 (b 0 (by decide)) rfl, R 0 7 7 (b 0 (by decide)) rfl⟩, ⟨R5 0 12 5 (b 0 (by decide)) rfl, R 0 13 8 (b 0 (by decide)) rfl, R 0 14 9 (b 0 (by decide)) rfl, R 0 15 10 (b 0 (by decide)) rfl, R 0 16 11 (b 0 (by decide)) rfl⟩, ⟨K 5 (b 5 (by decide)), Ln 5 (b 5 (by decide))⟩, ⟨K 6 (b 6 (by decide)), Ln 6 (b 6 (by decide))⟩, ⟨K 7 (b 7 (by decide)), Ln 7 (b 7 (by decide))⟩, ⟨K 8 (b 8 (by decide)), Ln 8 (b 8 (by decide))⟩, ⟨K 9 (b 9 (by decide)), Ln 9 (b 9 (by decide))⟩, ⟨K 10 (b 10 (by decide)), Ln 10 (b 10 (by decide))⟩, K 11 (b 11 (by decide)), Ln 11 (b 11 (by decide))⟩, ?_, fun q _ => Or.inl ⟨rfl, I0 11 _ (b 11 (by decide))⟩⟩, ⟨[], ?_, by simp, rfl, fun i h => absurd h (by simp)⟩, ⟨[], ?_, by simp, rfl, fun i h => absurd h (by simp)⟩, ⟨F 0 8 (b 0 (by decide)), F 0 9 (b 0 (by decide)), F 0 10 (b 0 (by decide))⟩, fun m q _ _ => ?_, fun k _ => I0 6 _ (b 6 (by decide)), fun k _ => I0 7 _ (b 7 (by decide))⟩
    · refine ⟨⟨⟨⟨K 12 (b 12 (by decide)), R5 12 8 5 (b 12 (by decide)) rfl, fun k hk => ?_⟩, fun k hk => ?_, fun k hk => ?_, fun k hk => ?_⟩, F 12 7 (b 12 (by decide)), fun i h => absurd h (by simp), fun r _ _ => I0 14 _ (b 14 (by decide)), fun r _ => I0 15 _ (b 15 (by decide)), fun c _ => ⟨O0 18 _ (b 18 (by decide)) rfl, O0 19 _ (b 19 (by decide)) rfl, fun i h => absurd h (by rw [chL0]; simp)⟩, fun r _ => ⟨Or.inl (O0 16 _ (b 16 (by decide)) rfl), Or.inl (O0 17 _ (b 17 (by decide)) rfl)⟩⟩, ⟨⟨K 20 (b 20 (by decide)), R5 20 1 5 (b 20 (by decide)) rfl, R 20 2 15 (b 20 (by decide)) rfl, R 20 7 12 (b 20 (by decide)) rfl, F 20 8 (b 20 (by decide))⟩, by decide, K 15 (b 15 (by decide)), Ln 15 (b 15 (by decide)), fun r _ => I0 15 _ (b 15 (by decide))⟩, ⟨R 20 0 21 (b 20 (by decide)) rfl, R 20 3 22 (b 20 (by decide)) rfl, R 20 4 23 (b 20 (by decide)) rfl, R 20 5 24 (b 20 (by decide)) rfl, R 20 6 25 (b 20 (by decide)) rfl⟩, ⟨K 21 (b 21 (by decide)), Ln 21 (b 21 (by decide)), K 22 (b 22 (by decide)), Ln 22 (b 22 (by decide)), K 23 (b 23 (by decide)), Ln 23 (b 23 (by decide)), K 24 (b 24 (by decide)), Ln 24 (b 24 (by decide)), K 25 (b 25 (by decide)), Ln 25 (b 25 (by decide))⟩⟩
      · have : k = 0 ∨ k = 1 ∨ k = 2 ∨ k = 3 ∨ k = 4 ∨ k = 5 ∨ k = 6 := by omega
        rcases this with e | e | e | e | e | e | e <;> subst e
        · exact R 12 0 13 (b 12 (by decide)) rfl
        · exact R 12 1 14 (b 12 (by decide)) rfl
        · exact R 12 2 15 (b 12 (by decide)) rfl
        · exact R 12 3 16 (b 12 (by decide)) rfl
        · exact R 12 4 17 (b 12 (by decide)) rfl
        · exact R 12 5 18 (b 12 (by decide)) rfl
        · exact R 12 6 19 (b 12 (by decide)) rfl
      · have : k = 0 ∨ k = 1 ∨ k = 2 := by omega
        rcases this with e | e | e <;> subst e
        · exact ⟨K 13 (b 13 (by decide)), Ln 13 (b 13 (by decide))⟩
        · exact ⟨K 14 (b 14 (by decide)), Ln 14 (b 14 (by decide))⟩
        · exact ⟨K 15 (b 15 (by decide)), Ln 15 (b 15 (by decide))⟩
      · have : k = 0 ∨ k = 1 := by omega
        rcases this with e | e <;> subst e
        · exact ⟨K 16 (b 16 (by decide)), Ln 16 (b 16 (by decide))⟩
        · exact ⟨K 17 (b 17 (by decide)), Ln 17 (b 17 (by decide))⟩
      · have : k = 0 ∨ k = 1 := by omega
        rcases this with e | e <;> subst e
        · exact ⟨K 18 (b 18 (by decide)), Ln 18 (b 18 (by decide))⟩
        · exact ⟨K 19 (b 19 (by decide)), Ln 19 (b 19 (by decide))⟩
    · exact ⟨by simp, ⟨K 1 (b 1 (by decide)), F 1 0 (b 1 (by decide)), F 1 1 (b 1 (by decide)), F 1 2 (b 1 (by decide)), R 1 3 2 (b 1 (by decide)) rfl⟩, ⟨K 2 (b 2 (by decide)), Ln 2 (b 2 (by decide))⟩, fun i h => absurd h (by simp)⟩
    · exact ⟨by simp, ⟨K 3 (b 3 (by decide)), F 3 0 (b 3 (by decide)), F 3 1 (b 3 (by decide)), F 3 2 (b 3 (by decide)), R 3 3 4 (b 3 (by decide)) rfl⟩, ⟨K 4 (b 4 (by decide)), Ln 4 (b 4 (by decide))⟩, fun i h => absurd h (by simp)⟩
    · rw [I0 5 _ (b 5 (by decide))]; unfold snV; rw [mS0_2, mS0_2]; split <;> rfl
end V
