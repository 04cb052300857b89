-- part 132: applying a row leaves the frame that is read alone
def wAq : Nat → Prop := fun k => wMid k ∨ (27 ≤ k ∧ k ≤ 30) ∨ (37 ≤ k ∧ k ≤ 41) ∨ (47 ≤ k ∧ k ≠ 76 ∧ (k < 71 ∨ 73 < k))
section R
variable {M A : mSt} {mkO : Nat → Option Nat} {sl : Nat → Int32} {n r : Nat} {l : List Nat}
theorem m_apply2 (h : mR M mkO sl n l) (hls : lsM M n) (hr : nxt M l r) {Wt : List Nat} (hW : mWt M n Wt) {E F : List En} (hE : mNw M n E) (hF : mTu M n F) : ∃ C, fm_apply M (Int32.ofNat n) (Int32.ofNat r) = some C ∧ mEx wAq M C ∧ apd M C n r l ∧ mWt C n (Wt.filter (fun q => decide (q ≠ r))) ∧ otW M C n ∧ mNw C n ((nwC M mkO r (sbj M r) (sgt M mkO sl l (sbj M r)) (sgt M mkO sl (l ++ [r]) (sbj M r))).foldl (adE 250) E) ∧ otN M C n ∧ mTu C n ((tuA r (liL M n l) (liL M n (l ++ [r])) 4).foldl (adE 200) F) ∧ otT M C n := m_apply h hls hr hW hE hF
end R
