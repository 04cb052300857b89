-- part 83: a part's values, in both
theorem kv_ky {M : mSt} {f : Nat → Option Nat} (h : ∀ x r, f x = some r → M.2 12 r = Int32.ofNat x) : ∀ n, kvL f n = (kyL f n).map (fun r => (M.2 12 r, Int32.ofNat r)) := by
  intro n
  induction n with
  | zero => rfl
  | succ n ih =>
    rw [kvL_succ, kyL_succ, List.map_append, ih]
    congr 1
    cases hf : f n with
    | none => rfl
    | some r => show [(Int32.ofNat n, Int32.ofNat r)] = [(M.2 12 r, Int32.ofNat r)]; rw [h n r hf]
section V
variable {S S' : cSt} {M A : mSt} {ra : Nat → Nat} {sl : Nat → Int32} {mkO : Nat → Option Nat} {x0 n : Nat} {l : List Nat}
theorem find_p {p : Nat → Bool} {L : List Nat} {r : Nat} (h : L.find? p = some r) : p r = true ∧ r ∈ L := ⟨List.find?_some h, List.mem_of_find?_eq_some h⟩
/-- a list of rows as a look puts it -/
def rwL (M : mSt) (R : List Nat) : List (Int32 × Int32) := R.map (fun r => (M.2 12 r, Int32.ofNat r))
/-- what the class has of a part's values: as many, and where each comes from -/
def srcs (S' : cSt) (M : mSt) (ra : Nat → Nat) (x0 va : Nat) (c rl : Int32) (V : List (Int32 × Int32)) : Prop := ∀ i (h : i < V.length), ∃ o : Option Nat, fk_11_sourceAt S' x0 va c rl (Int32.ofNat i) = some (o.map ra) ∧ (∀ r, o = some r → mde M r) ∧ V[i] = (oV M o, rI o)
theorem srcs_rw {va : Nat} {c rl : Int32} {R : List Nat} (hm : ∀ r ∈ R, mde M r) (h : ∀ i (h : i < R.length), fk_11_sourceAt S' x0 va c rl (Int32.ofNat i) = some (some (ra R[i]))) : srcs S' M ra x0 va c rl (rwL M R) := by
  intro i hi
  have hi' : i < R.length := by unfold rwL at hi; rw [List.length_map] at hi; exact hi
  refine ⟨some R[i], h i hi', fun r hr => by cases hr; exact hm _ (List.getElem_mem hi'), ?_⟩
  exact List.getElem_map (fun r => (M.2 12 r, Int32.ofNat r))
/-- what a look leaves alone -/
def lkE (x0 : Nat) (S S' : cSt) : Prop := cEq (scr x0) S S' ∧ kR S' (x0 + 13) = kR S (x0 + 13) ∧ kR S' (x0 + 126) = kR S (x0 + 126)
theorem lkE_refl (x0 : Nat) (S : cSt) : lkE x0 S S := ⟨cEq_refl _ _, rfl, rfl⟩
theorem lkE_V (hn : n < 4) (e : cEq (inV (sN x0 n + 21)) S S') : lkE x0 S S' := by
  have h : ∀ a, inV (sN x0 n + 21) a → scr x0 a := fun a ha => Or.inl ⟨n, hn, ha.1, by have := ha.2; omega⟩
  refine ⟨cEq_mono e h, (e.2.2.2.2 _ (fun q => ?_)).2.1, (e.2.2.2.2 _ (fun q => ?_)).2.1⟩
  · have := q.1; unfold sN at this; omega
  · have := q.2; unfold sN at this; omega
theorem lkE_T (e : cEq (inT (x0 + 13)) S S') (h : kR S' (x0 + 13) = kR S (x0 + 13)) : lkE x0 S S' := by
  refine ⟨cEq_mono e (fun a ha => Or.inr (Or.inl ⟨ha.1, by have := ha.2; omega⟩)), h, (e.2.2.2.2 _ (fun q => ?_)).2.1⟩
  have := q.2; omega
theorem k_vals (hn : n < 4) (hA : rA M mkO sl) (hc : cl M l) (hQ : cQ M ra sl (chF M sl) (mde M) mkO S (x0 + 5) (sN x0 n + 12) (sN x0 n + 20) (sN x0 n + 15) 1000 (sN x0 n + 21) l) (h12 : kK S x0 = 12) (h5 : kR S x0 5 = some (x0 + 13)) (hT : txA S (x0 + 13) (x0 + 5)) {j m kd p : Nat} {rl : Int32} (hp : ptO M mkO j m kd p rl) (hrl : isRl rl) :
    ∃ S', fk_11_findValues S x0 (sN x0 n + 20) (Int32.ofNat (8 * j + p)) rl = some (Int32.ofNat (vaL M l (Int32.ofNat (rNm m)) (Int32.ofNat p) rl).length, S') ∧ lkE x0 S S' ∧ cQ M ra sl (chF M sl) (mde M) mkO S' (x0 + 5) (sN x0 n + 12) (sN x0 n + 20) (sN x0 n + 15) 1000 (sN x0 n + 21) l ∧ (rl ≠ 66 → rl ≠ 67 → srcs S' M ra x0 (sN x0 n + 20) (Int32.ofNat (8 * j + p)) rl (vaL M l (Int32.ofNat (rNm m)) (Int32.ofNat p) rl)) := by
  have hj := (hA.2.1.1 j m hp.1).1
  have hp6 := hp.2.2.2.1
  have hc8 : 8 * j + p < 385 := by omega
  have hup : l.take 1000 = l := List.take_of_length_le (cl_len hc)
  have v11 := hQ.2.2.1.1.1
  have hvA := hQ.2.2.2.2.1
  unfold fk_11_findValues
  rcases hrl with e | e | e | e | e | e | e <;> subst e
  · -- 65
    have hv := ky_rng hA hc hp (Or.inl rfl)
    obtain ⟨f, g, q1, q2⟩ := k_findMembers hc8 hQ hv
    have eS : cEq (inV (sN x0 n + 21)) S (sO (sI S (sN x0 n + 21 + 2) f) (sN x0 n + 21 + 3) g) := cEq_trans (cEq_sI _ (by unfold inV; omega)) (cEq_sO _ (by unfold inV; omega))
    have hQ' := cQ_eq hQ eS
    have hk : ∀ x, x < 64 → kO (sO (sI S (sN x0 n + 21 + 2) f) (sN x0 n + 21 + 3) g) (sN x0 n + 21 + 3) x = (enR M (chF M sl) l 1000 (8 * j + p) x).map ra := fun x hx => by rw [kO_sO]; exact q2 x hx
    have hV : vaL M l (Int32.ofNat (rNm m)) (Int32.ofNat p) 65 = rwL M (kyL (enR M (chF M sl) l 1000 (8 * j + p)) 64) := by
      have h1 : enR M (chF M sl) l 1000 (8 * j + p) = stB M l (Int32.ofNat (rNm m)) (Int32.ofNat p) := by funext x; rw [lk_A hA hc hp 1000 x, hup]
      show kvL (stB M l (Int32.ofNat (rNm m)) (Int32.ofNat p)) 64 = _
      rw [← h1]
      refine kv_ky (fun x r hr => ?_) 64
      have := (find_p hr).1
      rw [Bool.and_eq_true] at this
      exact of_decide_eq_true this.1
    refine ⟨_, ?_, lkE_V hn eS, hQ', fun _ _ => ?_⟩
    · rw [if_neg (by decide), if_neg (by decide), if_pos rfl, hV]
      unfold fk_11_findValues_32 fk_10_findKeys rwL
      rw [if_pos rfl, ckk_y v11, ckk_y v11, q1, bd_s, k_findKeys0 hQ' hk, bd_s, List.length_map]; rfl
    · rw [hV]
      refine srcs_rw (fun r hr => ?_) (fun i hi => ?_)
      · unfold kyL at hr
        obtain ⟨x, -, hx⟩ := List.mem_filterMap.mp hr
        exact cl_mem hc (chL_mem.mp (List.mem_reverse.mp (find_p hx).2)).1
      · unfold fk_11_sourceAt fk_11_sourceAt_26
        rw [if_neg (by decide), if_pos rfl, ckk_y hQ'.2.2.1.1.1, k_keyAt hQ' hk hi, bd_s]
  · -- 66
    refine ⟨S, ?_, lkE_refl _ _, hQ, fun q _ => absurd rfl q⟩
    rw [if_neg (by decide), if_pos rfl]; rfl
  · -- 67
    refine ⟨S, ?_, lkE_refl _ _, hQ, fun _ q => absurd rfl q⟩
    rw [if_neg (by decide), if_neg (by decide), if_neg (by decide), if_neg (by decide), if_neg (by decide)]; rfl
  · -- 76
    refine ⟨S, ?_, lkE_refl _ _, hQ, fun _ _ => ?_⟩
    · rw [if_neg (by decide), if_neg (by decide), if_neg (by decide), if_neg (by decide), if_neg (by decide)]; rfl
    · have hlg := k_lastGood hc8 hQ.1 hQ.2.1 hQ.2.2.1 hQ.2.2.2.1
      have hlt := lk_L hA hc hp 1000
      rw [hup] at hlt
      intro i hi
      have hi0 : i = 0 := by
        have : (vaL M l (Int32.ofNat (rNm m)) (Int32.ofNat p) 76).length = 1 := rfl
        omega
      subst hi0
      refine ⟨ltB M l (Int32.ofNat (rNm m)) (Int32.ofNat p), ?_, fun r hr => ?_, ?_⟩
      · unfold fk_11_sourceAt fk_11_sourceAt_57
        rw [if_neg (by decide), if_neg (by decide), if_neg (by decide), if_neg (by decide), ckk_y v11, hlg, bd_s, hlt]
      · rw [← hlt] at hr
        exact cl_mem hc (chL_mem.mp (List.mem_reverse.mp (find_p hr).2)).1
      · show (_, _) = _
        cases ltB M l (Int32.ofNat (rNm m)) (Int32.ofNat p) <;> rfl
  · -- 77
    have hv := ky_rng hA hc hp (Or.inr rfl)
    obtain ⟨g, q1, q2⟩ := k_findBinds hc8 hQ hv
    have eS : cEq (inV (sN x0 n + 21)) S (sO S (sN x0 n + 21 + 3) g) := cEq_sO _ (by unfold inV; omega)
    have hQ' := cQ_eq hQ eS
    have hk : ∀ x, x < 64 → kO (sO S (sN x0 n + 21 + 3) g) (sN x0 n + 21 + 3) x = (bnR M (chF M sl) l 1000 (8 * j + p) x).map ra := fun x hx => by rw [kO_sO]; exact q2 x hx
    have hbn : ∀ x r, bnR M (chF M sl) l 1000 (8 * j + p) x = some r → M.2 12 r = Int32.ofNat x ∧ r ∈ l := fun x r hr => by
      unfold bnR at hr
      cases hb : bdR M (chF M sl) l 1000 (8 * j + p) (Int32.ofNat x) with
      | none => rw [hb] at hr; cases hr
      | some q =>
        rw [hb] at hr
        have hr' : (if M.2 9 q = 15 then some q else none) = some r := hr
        by_cases e : M.2 9 q = 15
        · rw [if_pos e] at hr'
          cases hr'
          have := find_p hb
          rw [Bool.and_eq_true] at this
          exact ⟨of_decide_eq_true this.1.1, (chL_mem.mp (List.mem_reverse.mp this.2)).1⟩
        · rw [if_neg e] at hr'; cases hr'
    have hV : vaL M l (Int32.ofNat (rNm m)) (Int32.ofNat p) 77 = rwL M (kyL (bnR M (chF M sl) l 1000 (8 * j + p)) 64) := by
      have h1 : bnR M (chF M sl) l 1000 (8 * j + p) = kyC M l (Int32.ofNat (rNm m)) (Int32.ofNat p) := by funext x; rw [lk_M hA hc hp 1000 x, hup]
      show kvL (kyC M l (Int32.ofNat (rNm m)) (Int32.ofNat p)) 64 = _
      rw [← h1]
      exact kv_ky (fun x r hr => (hbn x r hr).1) 64
    refine ⟨_, ?_, lkE_V hn eS, hQ', fun _ _ => ?_⟩
    · rw [if_neg (by decide), if_neg (by decide), if_neg (by decide), if_pos rfl, hV]
      unfold fk_11_findValues_32 fk_10_findKeys rwL
      rw [if_neg (by decide), ckk_y v11, ckk_y v11, q1, bd_s, k_findKeys0 hQ' hk, bd_s, List.length_map]; rfl
    · rw [hV]
      refine srcs_rw (fun r hr => ?_) (fun i hi => ?_)
      · unfold kyL at hr
        obtain ⟨x, -, hx⟩ := List.mem_filterMap.mp hr
        exact cl_mem hc (hbn x r hx).2
      · unfold fk_11_sourceAt fk_11_sourceAt_26
        rw [if_neg (by decide), if_neg (by decide), if_pos rfl, ckk_y hQ'.2.2.1.1.1, k_keyAt hQ' hk hi, bd_s]
  · -- 83
    have h4 := sv_le hA hc 1000 (8 * j + p)
    obtain ⟨f, g, q1, q2⟩ := k_findSeveral hc8 hQ h4
    have eS : cEq (inV (sN x0 n + 21)) S (sO (sI S (sN x0 n + 21 + 1) f) (sN x0 n + 21) g) := cEq_trans (cEq_sI _ (by unfold inV; omega)) (cEq_sO _ (by unfold inV; omega))
    have hQ' := cQ_eq hQ eS
    have hV : vaL M l (Int32.ofNat (rNm m)) (Int32.ofNat p) 83 = rwL M (svL M (chF M sl) l 1000 (8 * j + p)) := by
      rw [lk_S hA hc hp 1000, hup]; rfl
    refine ⟨_, ?_, lkE_V hn eS, hQ', fun _ _ => ?_⟩
    · rw [if_pos rfl, hV, ckk_y v11, q1, bd_s]
      unfold rwL
      rw [List.length_map]; rfl
    · rw [hV]
      refine srcs_rw (fun r hr => ?_) (fun i hi => ?_)
      · unfold svL at hr
        exact cl_mem hc (chL_mem.mp (List.mem_filter.mp hr).1).1
      · unfold fk_11_sourceAt
        rw [if_pos rfl, ckk_y hQ'.2.2.1.1.1, hQ'.2.2.2.2.1.1.1, bd_s, ckk_y hQ'.2.2.2.2.1.2.1, hQ'.2.2.2.2.1.2.2.1, ck_n (by omega) (by omega), lt_d, jI_cl (by omega), kO_sO, q2 i hi]
  · -- 84
    have hsep : x0 + 5 + 5 ≤ x0 + 13 ∧ x0 + 13 + 4 ≤ sN x0 n + 12 ∧ (sN x0 n + 15 < x0 + 13 ∨ x0 + 13 + 4 ≤ sN x0 n + 15) ∧ (sN x0 n + 20 < x0 + 13 ∨ x0 + 13 + 4 ≤ sN x0 n + 20) := by unfold sN; omega
    obtain ⟨S', q1, q2, q3, q4, q5, q6, -⟩ := k_read hc8 hQ hT hsep (tcOk_cl hA hc hp 1000)
    have hQ' := cQ_w hQ q2 (fun a ha => by have := ha.1; have := ha.2; unfold sN; omega)
    have z0 := q2.2.2.2.2 x0 (fun q => by have := q.1; omega)
    have hV : vaL M l (Int32.ofNat (rNm m)) (Int32.ofNat p) 84 = rwL M (tsL M (chF M sl) l 1000 (8 * j + p)) := by
      rw [lk_T hA hc hp 1000, hup]; rfl
    have hlen : (tsL M (chF M sl) l 1000 (8 * j + p)).length ≤ 1000 := by
      rw [lk_T hA hc hp 1000, hup]
      refine Nat.le_trans (List.length_filter_le _ _) ?_
      have h1 : (txR M l (Int32.ofNat (rNm m)) (Int32.ofNat p)).length ≤ l.length := by unfold txR; rw [txL_len, len_srt]; exact List.length_filter_le _ _
      exact Nat.le_trans h1 (cl_len hc)
    refine ⟨S', ?_, lkE_T q2 q3, hQ', fun _ _ => ?_⟩
    · rw [if_neg (by decide), if_neg (by decide), if_neg (by decide), if_neg (by decide), if_pos rfl, ckk_y h12, h5, bd_s, ckk_y hT.1.1, q1, bd_s, ckk_y (by rw [q2.1]; exact h12), z0.2.1, h5, bd_s, ckk_y (by rw [q2.1]; exact hT.1.1), q5, hV]
      unfold rwL
      rw [List.length_map]
    · rw [hV]
      refine srcs_rw (fun r hr => ?_) (fun i hi => ?_)
      · rw [lk_T hA hc hp 1000, hup] at hr
        exact cl_mem hc (txR_mem.mp (List.mem_filter.mp hr).1).1
      · unfold fk_11_sourceAt fk_11_sourceAt_57
        rw [if_neg (by decide), if_neg (by decide), if_neg (by decide), if_pos rfl, ckk_y (by rw [q2.1]; exact h12), z0.2.1, h5, bd_s, ckk_y (by rw [q2.1]; exact hT.1.1), q3, hT.1.2.1, bd_s, ckk_y (by rw [q2.1]; exact hT.2.1), q2.2.1, hT.2.2.1, ck_n (by omega) (by omega), lt_d, jI_cl (by omega), q6 i hi]
end V
