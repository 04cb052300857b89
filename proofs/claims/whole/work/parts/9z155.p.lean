-- part 155: the start
section V
variable {S0 S : cSt} {x0 : Nat}
theorem dsc_f {d : List Cl} (h : dsc x0 S0 S d) (i j : Nat) (x : Int32) (hc : (d[i]?.bind (fun c => c.2.2.1.lookup j)) = some x) : kF S (x0 + i) j = x := by
  cases e : d[i]? with
  | none => rw [e] at hc; cases hc
  | some c =>
    rw [e] at hc
    obtain ⟨hi, e'⟩ := List.getElem?_eq_some_iff.mp e
    have := (h.2.2.2 i hi).2.2.1 j
    rw [e'] at this
    rw [this, show c.2.2.1.lookup j = some x from hc]; rfl
theorem dsc_i {d : List Cl} (h : dsc x0 S0 S d) (i j : Nat) (hi : i < d.length) : kI S (x0 + i) j = 0 := (h.2.2.2 i hi).2.2.2.2.1 j
theorem dsc_n {d : List Cl} (h : dsc x0 S0 S d) (i j : Nat) (hc : (d[i]?.map (fun c => c.2.2.2.2)) = some []) : kO S (x0 + i) j = none := by
  cases e : d[i]? with
  | none => rw [e] at hc; cases hc
  | some c =>
    rw [e] at hc
    obtain ⟨hi, e'⟩ := List.getElem?_eq_some_iff.mp e
    have := (h.2.2.2 i hi).2.2.2.2.2 j
    rw [e'] at this
    rw [this, show c.2.2.2.2 = [] from Option.some.inj hc]; rfl
theorem dFin_len : dFin.length = 133 := by rfl
set_option maxRecDepth 10000 in
theorem nd_all (h : dsc x0 S0 S dFin) (sl : Nat → Int32) (ra : Nat → Nat) (n : Nat) (hn : n < 4) : (nM mS0 (fun _ => none) sl n [] ∧ nC S mS0 ra sl x0 n []) ∧ (mWt mS0 n [] ∧ nW S ra x0 n [] ∧ wOk mS0 [] []) ∧ ∀ q, mde mS0 q → rN q = n → q ∈ ([] : List Nat) := by
  have step : ∀ p n : Nat, n < 4 → sN x0 n = x0 + p → (dFin.drop p).take 26 = ndCl p n → (nM mS0 (fun _ => none) sl n [] ∧ nC S mS0 ra sl x0 n []) ∧ (mWt mS0 n [] ∧ nW S ra x0 n [] ∧ wOk mS0 [] []) ∧ ∀ q, mde mS0 q → rN q = n → q ∈ ([] : List Nat) := fun p n hn hs hd => by
    refine nd_start hn hs (fun i hi => ?_) sl ra
    have e : dFin[p + i]? = (ndCl p n)[i]? := by rw [← hd, List.getElem?_take_of_lt (show i < 26 from hi), List.getElem?_drop]
    rw [List.getElem?_eq_getElem hi] at e
    obtain ⟨h1, e'⟩ := List.getElem?_eq_some_iff.mp e
    have := h.2.2.2 (p + i) h1
    rw [e'] at this
    exact this
  have c : n = 0 ∨ n = 1 ∨ n = 2 ∨ n = 3 := by omega
  rcases c with e | e | e | e <;> subst e
  · exact step 22 0 hn (by unfold sN; omega) (by rfl)
  · exact step 48 1 hn (by unfold sN; omega) (by rfl)
  · exact step 74 2 hn (by unfold sN; omega) (by rfl)
  · exact step 100 3 hn (by unfold sN; omega) (by rfl)
theorem cuI0 (mkO : Nat → Option Nat) (Bt : Nat) : cuI mS0 mkO Bt 0 0 0 0 := ⟨⟨0, Nat.zero_le _, rfl⟩, fun q => absurd rfl q⟩
set_option maxRecDepth 10000 in
theorem Inv_start (hp : pS0 S0) (h : dsc (kZ S0) S0 S dFin) : Inv (kZ S0) 0 S mS0 := by
  obtain ⟨hz, b0, b1, s0, s1⟩ := hp
  generalize hx : kZ S0 = x0 at *
  have K : ∀ i kd, (dFin[i]?.map (fun c => c.1)) = some kd → kK S (x0 + i) = kd := fun i kd q => dsc_k h i kd q
  have Ln : ∀ i n, (dFin[i]?.map (fun c => c.2.1)) = some n → kL S (x0 + i) = n := fun i n q => dsc_l h i n q
  have R : ∀ i j t, (dFin[i]?.bind (fun c => c.2.2.2.1.lookup j)) = some t → kR S (x0 + i) j = some (x0 + t) := fun i j t q => dsc_r h i j t q
  have F : ∀ i j x, (dFin[i]?.bind (fun c => c.2.2.1.lookup j)) = some x → kF S (x0 + i) j = x := fun i j x q => dsc_f h i j x q
  have I0 : ∀ i j, i < 133 → kI S (x0 + i) j = 0 := fun i j hi => dsc_i h i j (by rw [dFin_len]; exact hi)
  have O0 : ∀ i j, (dFin[i]?.map (fun c => c.2.2.2.2)) = some [] → kO S (x0 + i) j = none := fun i j q => dsc_n h i j q
  have Oo : ∀ i j t, (dFin[i]?.bind (fun c => c.2.2.2.2.lookup j)) = some t → kO S (x0 + i) j = some (x0 + t) := fun i j t q => dsc_o h i j t q
  have hZ : kZ S = x0 + 133 := by rw [h.1, dFin_len]
  have below : ∀ a, kK S0 a ≠ 0 → a < x0 := fun a ha => by
    by_cases c : a < x0
    · exact c
    · exact absurd (hz a (by omega)) ha
  have q0 : kT S0 0 < x0 := below _ (by rw [s0.1]; decide)
  have q1 : kT S0 1 < x0 := below _ (by rw [s1.1]; decide)
  have p0 : b0 < x0 := below _ (by rw [s0.2.2.2.1]; decide)
  have p1 : b1 < x0 := below _ (by rw [s1.2.2.2.1]; decide)
  have low := h.2.2.1
  have hT := h.2.1
  refine ⟨fun _ => 0, fun _ => 0, fun _ => none, fun _ => [], fun _ => [], fun _ => 0, fun _ => 0, ⟨⟨rA0 _, ⟨fun _ _ q => (by cases q), fun n _ => ⟨0, by decide, rfl, fun i _ => ⟨fun _ => Nat.zero_le _, fun _ => rfl⟩⟩⟩, ⟨fun n _ => ⟨⟨0, Nat.zero_le _, rfl⟩, 0, 0, rfl, rfl, Nat.zero_le _, Nat.zero_le _⟩, fun r q => absurd q (mde0 r)⟩, by decide⟩, ⟨⟨⟨K 5 1 (by rfl), R 5 0 6 (by rfl), R 5 1 7 (by rfl), R 5 2 8 (by rfl), R 5 3 9 (by rfl), fun r q => absurd q (mde0 r)⟩, ⟨K 6 30 (by rfl), Ln 6 1000 (by rfl), K 7 30 (by rfl), Ln 7 48 (by rfl), K 8 20 (by rfl), Ln 8 4 (by rfl), K 9 20 (by rfl), Ln 9 4 (by rfl)⟩, fun r _ q => absurd q (mde0 r), fun r _ _ => O0 6 r (by rfl), fun j _ => ⟨O0 7 j (by rfl), fun r q => (by cases q)⟩⟩, fun n _ => ⟨I0 8 n (by decide), I0 9 n (by decide)⟩⟩, fun n hn => nd_all h _ _ n hn, by omega, fun r q => absurd q (mde0 r)⟩, ?_, ?_, ?_, ?_, fun r q => absurd q (mde0 r), ?_, ?_⟩
  · refine ⟨⟨K 0 12 (by rfl), R 0 0 1 (by rfl), R 0 1 5 (by rfl), R 0 2 10 (by rfl), R 0 3 11 (by rfl), R 0 4 126 (by rfl), R 0 5 13 (by rfl), R 0 6 19 (by rfl), R 0 7 20 (by rfl), R 0 8 21 (by rfl)⟩, ⟨F 0 9 0 (by rfl), 0, by decide, rfl⟩, ⟨K 10 31 (by rfl), Ln 10 4 (by rfl), fun n hn => ?_⟩, ⟨K 19 2 (by rfl), K 20 20 (by rfl), Ln 20 48 (by rfl), K 21 20 (by rfl), Ln 21 48 (by rfl)⟩, b0, b1, by rw [hT, hT]; exact ⟨q0, q1, p0, p1⟩, ?_, ?_⟩
    · have c : n = 0 ∨ n = 1 ∨ n = 2 ∨ n = 3 := by omega
      rcases c with e | e | e | e <;> subst e
      · rw [Oo 10 0 22 (by rfl)]; rfl
      · rw [Oo 10 1 48 (by rfl)]; unfold sN; congr 1
      · rw [Oo 10 2 74 (by rfl)]; unfold sN; congr 1
      · rw [Oo 10 3 100 (by rfl)]; unfold sN; congr 1
    · have a := low _ q0
      have c := low _ p0
      unfold pStr at s0 ⊢
      rw [hT, a.1, a.2.2.1, a.2.2.2.1, c.1, c.2.1, c.2.2.2.2.1]; exact s0
    · have a := low _ q1
      have c := low _ p1
      unfold pStr at s1 ⊢
      rw [hT, a.1, a.2.2.1, a.2.2.2.1, c.1, c.2.1, c.2.2.2.2.1]; exact s1
  · refine ⟨⟨K 1 4 (by rfl), R 1 0 2 (by rfl), R 1 4 3 (by rfl), R 1 5 4 (by rfl), K 2 22 (by rfl), Ln 2 40 (by rfl), K 3 22 (by rfl), Ln 3 48 (by rfl), K 4 20 (by rfl), Ln 4 8 (by rfl)⟩, ⟨F 1 1 0 (by rfl), F 1 2 0 (by rfl), F 1 3 (-1) (by rfl)⟩, fun i _ => ⟨I0 2 i (by decide), 0, by decide, rfl⟩, fun i _ => ⟨I0 3 i (by decide), 0, by decide, rfl⟩, fun i _ => I0 4 i (by decide), 0, 0, by decide, by decide, rfl, rfl, fun i _ => ⟨0, by decide, rfl, fun p q => absurd q (by omega), fun p _ _ => rfl, fun q => absurd q (by omega), fun _ => rfl⟩, fun m _ q => absurd q (mde0 m)⟩
  · exact ⟨⟨K 126 11 (by rfl), R 126 1 5 (by rfl), R 126 2 127 (by rfl)⟩, ⟨K 127 20 (by rfl), Ln 127 1000 (by rfl)⟩, ⟨R 126 0 128 (by rfl), R 126 3 129 (by rfl), R 126 4 130 (by rfl), R 126 5 131 (by rfl), R 126 6 132 (by rfl)⟩, K 128 30 (by rfl), Ln 128 4 (by rfl), K 129 20 (by rfl), Ln 129 4 (by rfl), K 130 20 (by rfl), Ln 130 256 (by rfl), K 131 30 (by rfl), Ln 131 64 (by rfl), K 132 20 (by rfl), Ln 132 5 (by rfl)⟩
  · exact ⟨⟨⟨K 13 10 (by rfl), R 13 0 14 (by rfl), R 13 2 5 (by rfl), R 13 3 15 (by rfl), R 13 4 16 (by rfl)⟩, K 14 30 (by rfl), Ln 14 1000 (by rfl), K 15 20 (by rfl), Ln 15 1001 (by rfl), K 16 20 (by rfl), Ln 16 1001 (by rfl)⟩, x0 + 18, R 13 7 18 (by rfl), K 18 21 (by rfl), by rw [Ln 18 0 (by rfl)]; decide, by omega, Or.inl rfl⟩
  · exact ⟨⟨K 11 6 (by rfl), R 11 3 12 (by rfl), K 12 32 (by rfl), Ln 12 60 (by rfl)⟩, ⟨F 11 0 0 (by rfl), F 11 1 0 (by rfl), F 11 2 0 (by rfl)⟩, 0, 0, by decide, by decide, rfl, fun i q => absurd q (by omega), fun i _ _ => O0 12 i (by rfl), fun i _ q => absurd q (by omega), fun i q => absurd q (by omega)⟩
  · exact fun n _ => ⟨fun m q _ _ => ⟨⟨0, Nat.zero_le _, rfl⟩, 0, Nat.zero_le _, rfl⟩, fun m _ => cuI0 _ _⟩
theorem all_calls {k : Nat} (hk : k + 1 < 900) : lAll x0 (Inv x0 k) (Inv x0 (k + 1)) :=
  ⟨c_k, c_z, fun _ _ h => Inv_1 h hk, c_type hk, c_kind hk, c_fault hk, c_tick hk, c_act hk, c_commit hk, c_cursor hk, c_where hk, c_stand hk, c_listed hk, c_turned hk, c_send hk, c_deliver hk, c_lose hk, c_twice hk, c_octet hk, c_bend hk, c_join hk, c_object hk, c_size hk, c_value hk, c_bound hk, c_by hk, c_list hk, c_count hk, c_ranked hk, c_past hk, c_was hk, c_row hk, c_frame hk, c_news hk, c_calm hk, c_node hk, c_total hk⟩
theorem p_goal : pGoal 448 := fun S0 hp => by
  obtain ⟨S2, h1, h2⟩ := init_dsc S0
  have hI := Inv_start hp h2
  refine ⟨fun k => Inv (kZ S0) k, S2, h1, fun n hn => c_z S2 mS0 n hI hn, fun k hk => all_calls (by omega)⟩
end V
