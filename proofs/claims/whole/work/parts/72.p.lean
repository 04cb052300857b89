-- part 72: all that is kept from call to call
/-- a frame's octets -/
def nbL : Nat → Int64 → List Int32
  | 0, _ => []
  | f + 1, z => if lg_cmp z 127 ≤ 0 then [Int64.toInt32 z &&& 255] else (((Int64.toInt32 (z &&& 127)) ||| 128) &&& 255) :: nbL f (z >>> (Int32.toInt64 7 &&& 63))
def numL (x : Int32) : List Int32 := nbL 10 (if 0 ≤ x then (2 : Int64) * Int32.toInt64 x else ((-2 : Int64) * Int32.toInt64 x) - 1)
def rowL (M : mSt) (r : Nat) : List Int32 := [((32 : Int32) * Int32.ofNat (rN r) + M.2 9 r) &&& 255] ++ numL (Int32.ofNat (rM r)) ++ numL (M.2 10 r) ++ numL (M.2 11 r) ++ numL (M.2 12 r) ++ numL (M.2 13 r) ++ numL (M.2 14 r) ++ numL (M.2 15 r) ++ (List.range 4).flatMap (fun q => numL (M.2 16 (4 * r + q)))
def bodL (M : mSt) (g : Nat → Int32) : List Int32 := [((g 0 + 4 * g 1) + 16 * g 2) &&& 255] ++ (List.range 4).flatMap (fun q => numL (g (4 + q))) ++ (List.range 4).flatMap (fun m => numL (g (16 + 4 * m)) ++ if g (16 + 4 * m) = 0 then [] else numL (g (17 + 4 * m)) ++ numL (g (18 + 4 * m)) ++ numL (g (19 + 4 * m))) ++ numL (g 3) ++ (List.range (g 3).toNatClampNeg).flatMap (fun i => rowL M (g (8 + i)).toNatClampNeg)
def crc1 (c : Int32) : Int32 := if 2 * c ≤ 65535 then 2 * c else (2 * c) ^^^ 69665
def crc8 (c b : Int32) : Int32 := crc1 (crc1 (crc1 (crc1 (crc1 (crc1 (crc1 (crc1 (c ^^^ (256 * b)))))))))
def crcL (L : List Int32) : Int32 := L.foldl crc8 65535
def frL (M : mSt) (g : Nat → Int32) : List Int32 := bodL M g ++ [(crcL (bodL M g) >>> ((8 : Int32) &&& 31)) &&& 255, crcL (bodL M g) &&& 255]
/-- a cursor: how often set, its object, its part, the insert that it stands behind -/
def cuI (M : mSt) (mkO : Nat → Option Nat) (Bt : Nat) (a b c d : Int32) : Prop := (∃ x, x ≤ Bt ∧ a = Int32.ofNat x) ∧ (a ≠ 0 → ∃ j m kd p, ptO M mkO j m kd p 84 ∧ b = Int32.ofNat (rNm m) ∧ c = Int32.ofNat p ∧ (d = 0 ∨ ∃ t, mde M t ∧ isO M 9 b c t ∧ d = Int32.ofNat (rNm t)))
/-- a frame's own cells -/
def fLy (S : cSt) (f wa ta : Nat) : Prop := (kK S f = 3 ∧ kR S f 0 = some (f + 1) ∧ kR S f 1 = some (f + 2) ∧ kR S f 2 = some (f + 3) ∧ kR S f 9 = some wa ∧ kR S f 10 = some ta) ∧ (kK S (f + 1) = 20 ∧ kL S (f + 1) = 4 ∧ kK S (f + 2) = 20 ∧ kL S (f + 2) = 16 ∧ kK S (f + 3) = 30 ∧ kL S (f + 3) = 8) ∧ (kK S wa = 21 ∧ kK S ta = 21 ∧ wa ≠ ta ∧ ((kL S wa = 0 ∧ kL S ta = 0) ∨ (kL S wa = 560 ∧ kL S ta = 560)))
/-- what a frame carries: the class's and the reference's -/
def fCo (S : cSt) (M : mSt) (ra : Nat → Nat) (mkO : Nat → Option Nat) (Bt f : Nat) (g : Nat → Int32) : Prop :=
  (kF S f 3 = g 0 ∧ kF S f 4 = g 1 ∧ kF S f 5 = g 2 ∧ kF S f 6 = g 3) ∧ (∃ a b, a < 4 ∧ b < 4 ∧ a ≠ b ∧ g 0 = Int32.ofNat a ∧ g 1 = Int32.ofNat b) ∧ (g 2 = 0 ∨ g 2 = 1) ∧ (∀ q, q < 4 → kI S (f + 1) q = g (4 + q) ∧ ∃ x, x ≤ mdN M q ∧ g (4 + q) = Int32.ofNat x) ∧
  (∀ c, c < 16 → kI S (f + 2) c = g (16 + c)) ∧ (∀ m, m < 4 → cuI M mkO Bt (g (16 + 4 * m)) (g (17 + 4 * m)) (g (18 + 4 * m)) (g (19 + 4 * m))) ∧ ∃ c, c ≤ 8 ∧ g 3 = Int32.ofNat c ∧ ∀ i, i < c → ∃ r, mde M r ∧ g (8 + i) = Int32.ofNat r ∧ kO S (f + 3) i = some (ra r)
/-- what is written of a frame, and what is bent -/
def fBy (S : cSt) (M : mSt) (f wa ta : Nat) (g : Nat → Int32) : Prop :=
  (∀ i, 32 + (frL M g).length ≤ i → i < 640 → g i = 0) ∧ (∀ i, i < (frL M g).length → ∃ x, x < 256 ∧ g (32 + i) = Int32.ofNat x) ∧ kF S f 8 = Int32.ofNat ((List.range (frL M g).length).filter (fun i => decide (g (32 + i) ≠ 0))).length ∧
  ((kF S f 7 = 0 ∧ ∀ i, i < (frL M g).length → g (32 + i) = 0) ∨ (kF S f 7 = Int32.ofNat (frL M g).length ∧ kL S wa = 560 ∧ (∀ i (h : i < (frL M g).length), kI S wa i = ((frL M g)[i]).toInt8.toInt32) ∧ ∀ i, i < (frL M g).length → kI S ta i = (g (32 + i)).toInt8.toInt32))
/-- the k-th frame in the reference -/
def gF (M : mSt) (k : Nat) : Nat → Int32 := fun i => M.2 46 (640 * k + i)
/-- the line -/
def lnI (x0 Bt : Nat) (S : cSt) (M : mSt) (ra : Nat → Nat) (mkO : Nat → Option Nat) (ro : Nat → Nat) (fa : Nat → Nat) : Prop :=
  (kK S (x0 + 11) = 6 ∧ kR S (x0 + 11) 3 = some (x0 + 12) ∧ kK S (x0 + 12) = 32 ∧ kL S (x0 + 12) = 60) ∧ (kF S (x0 + 11) 0 = M.1 42 ∧ kF S (x0 + 11) 1 = M.1 43 ∧ kF S (x0 + 11) 2 = M.1 44) ∧
  ∃ nf w, w ≤ nf ∧ nf ≤ 60 ∧ M.1 42 = Int32.ofNat w ∧ (∀ i, i < nf → kO S (x0 + 12) i = some (fa i)) ∧ (∀ i, nf ≤ i → i < 60 → kO S (x0 + 12) i = none) ∧ (∀ i i', i < nf → i' < nf → fa i = fa i' → i = i') ∧
    ∀ i, i < nf → x0 + 133 ≤ fa i ∧ ∃ wa ta, fLy S (fa i) wa ta ∧ (∀ c, c < 4 → ro (fa i + c) = fa i) ∧ ro wa = fa i ∧ ro ta = fa i ∧ fa i + 4 ≤ kZ S ∧ x0 + 133 ≤ wa ∧ wa < kZ S ∧ x0 + 133 ≤ ta ∧ ta < kZ S ∧ (wa < fa i ∨ fa i + 4 ≤ wa) ∧ (ta < fa i ∨ fa i + 4 ≤ ta) ∧ (i < w → fCo S M ra mkO Bt (fa i) (gF M i) ∧ fBy S M (fa i) wa ta (gF M i))
/-- the house's own cells -/
def hsI (x0 : Nat) (S : cSt) (M : mSt) : Prop :=
  (kK S x0 = 12 ∧ kR S x0 0 = some (x0 + 1) ∧ kR S x0 1 = some (x0 + 5) ∧ kR S x0 2 = some (x0 + 10) ∧ kR S x0 3 = some (x0 + 11) ∧ kR S x0 4 = some (x0 + 126) ∧ kR S x0 5 = some (x0 + 13) ∧ kR S x0 6 = some (x0 + 19) ∧ kR S x0 7 = some (x0 + 20) ∧ kR S x0 8 = some (x0 + 21)) ∧
  (kF S x0 9 = M.1 45 ∧ ∃ q, q ≤ 40 ∧ M.1 45 = Int32.ofNat q) ∧ (kK S (x0 + 10) = 31 ∧ kL S (x0 + 10) = 4 ∧ ∀ n, n < 4 → kO S (x0 + 10) n = some (sN x0 n)) ∧ (kK S (x0 + 19) = 2 ∧ kK S (x0 + 20) = 20 ∧ kL S (x0 + 20) = 48 ∧ kK S (x0 + 21) = 20 ∧ kL S (x0 + 21) = 48) ∧
  ∃ b0 b1, (kT S 0 < x0 ∧ kT S 1 < x0 ∧ b0 < x0 ∧ b1 < x0) ∧ pStr S (kT S 0) b0 19 pT0 ∧ pStr S (kT S 1) b1 7 pT1
def isRl (x : Int32) : Prop := x = 65 ∨ x = 66 ∨ x = 67 ∨ x = 76 ∨ x = 77 ∨ x = 83 ∨ x = 84
/-- tape and kinds -/
def kdI (x0 : Nat) (S : cSt) (M : mSt) : Prop :=
  (kK S (x0 + 1) = 4 ∧ kR S (x0 + 1) 0 = some (x0 + 2) ∧ kR S (x0 + 1) 4 = some (x0 + 3) ∧ kR S (x0 + 1) 5 = some (x0 + 4) ∧ kK S (x0 + 2) = 22 ∧ kL S (x0 + 2) = 40 ∧ kK S (x0 + 3) = 22 ∧ kL S (x0 + 3) = 48 ∧ kK S (x0 + 4) = 20 ∧ kL S (x0 + 4) = 8) ∧ (kF S (x0 + 1) 1 = M.1 1 ∧ kF S (x0 + 1) 2 = M.1 4 ∧ kF S (x0 + 1) 3 = M.1 3) ∧
  (∀ i, i < 40 → kI S (x0 + 2) i = M.2 2 i ∧ ∃ c, c < 128 ∧ M.2 2 i = Int32.ofNat c) ∧ (∀ i, i < 48 → kI S (x0 + 3) i = M.2 6 i ∧ ∃ c, c < 128 ∧ M.2 6 i = Int32.ofNat c) ∧ (∀ i, i < 8 → kI S (x0 + 4) i = M.2 5 i) ∧
  ∃ tp kn, tp ≤ 40 ∧ kn ≤ 8 ∧ M.1 1 = Int32.ofNat tp ∧ M.1 4 = Int32.ofNat kn ∧ (∀ i, i < 8 → ∃ np, np ≤ 6 ∧ M.2 5 i = Int32.ofNat np ∧ (∀ p, p < np → isRl (M.2 6 (6 * i + p))) ∧ (∀ p, np ≤ p → p < 6 → M.2 6 (6 * i + p) = 0) ∧ (i < kn → 1 ≤ np) ∧ (kn ≤ i → np = 0)) ∧ ∀ m kd, mde M m → M.2 9 m = 0 → M.2 12 m = Int32.ofNat kd → kd < 8 → kd < kn
/-- the view of the past -/
def thI (x0 : Nat) (S : cSt) : Prop := (kK S (x0 + 126) = 11 ∧ kR S (x0 + 126) 1 = some (x0 + 5) ∧ kR S (x0 + 126) 2 = some (x0 + 127)) ∧ (kK S (x0 + 127) = 20 ∧ kL S (x0 + 127) = 1000) ∧ vwA S (x0 + 126) (x0 + 128)
/-- the text -/
def txI (x0 : Nat) (S : cSt) (ro : Nat → Nat) : Prop := txA S (x0 + 13) (x0 + 5) ∧ ∃ tb, kR S (x0 + 13) 7 = some tb ∧ kK S tb = 21 ∧ kL S tb ≤ 82082 ∧ tb < kZ S ∧ (tb = x0 + 18 ∨ (x0 + 133 ≤ tb ∧ ro tb = 2))
/-- who a cell above the first ones belongs to -/
def roI (x0 : Nat) (S : cSt) (M : mSt) (ra : Nat → Nat) (ro : Nat → Nat) : Prop := ∀ r, mde M r → ro (ra r) = 1 ∧ ro (ra r - 1) = 1
/-- what is seen and sent, as numbers; the cursors -/
def nuI (M : mSt) (mkO : Nat → Option Nat) (Bt : Nat) : Prop := ∀ n, n < 4 → (∀ m q, m < 4 → q < 4 → (∃ x, x ≤ mdN M q ∧ M.2 21 (16 * n + 4 * m + q) = Int32.ofNat x) ∧ ∃ x, x ≤ mdN M q ∧ M.2 22 (16 * n + 4 * m + q) = Int32.ofNat x) ∧ ∀ m, m < 4 → cuI M mkO Bt (M.2 31 (16 * n + 4 * m)) (M.2 31 (16 * n + 4 * m + 1)) (M.2 31 (16 * n + 4 * m + 2)) (M.2 31 (16 * n + 4 * m + 3))
/-- all -/
def Inv (x0 k : Nat) (S : cSt) (M : mSt) : Prop := ∃ ra sl mkO L Wt ro fa, core x0 (1000 * k) S M ra sl mkO L Wt ∧ hsI x0 S M ∧ kdI x0 S M ∧ thI x0 S ∧ txI x0 S ro ∧ roI x0 S M ra ro ∧ lnI x0 (1000 * k) S M ra mkO ro fa ∧ nuI M mkO (1000 * k)
