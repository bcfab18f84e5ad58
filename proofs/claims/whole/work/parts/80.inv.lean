/-! THE INVARIANT between the class's state (ci ints, cn lengths, ca rows) and the reference's (mi, mn, ma), by the places of 74.lawstate. -/
def FU : Nat := 100000
def wbit (w : Nat → Int32) (i : Nat) : Bool := (w (i / 32)).toBitVec.getLsbD (i % 32)
def b01 (b : Bool) : Int32 := if b then 1 else 0
/-- how often s is among the first n of t -/
def cnt (t : Nat → Nat) : Nat → Nat → Nat
  | 0, _ => 0
  | n + 1, s => cnt t n s + (if t n = s then 1 else 0)
/-- sizes and constants of the class's object -/
def IvC (S K : Nat) (ci : Nat → Int32) (cn : Nat → Nat) : Prop :=
  (2 ≤ S ∧ S ≤ 96 ∧ 1 ≤ K ∧ K ≤ 24) ∧ (ci 0 = nI S ∧ ci 1 = nI K) ∧ (cn 3 = 600 ∧ cn 5 = S) ∧ (cn 8 = S ∧ cn 10 = S ∧ cn 12 = S ∧ cn 14 = S) ∧ (cn 19 = 2 * S ∧ cn 21 = 2 * S ∧ cn 23 = 2 * S ∧ cn 25 = S) ∧
  (ci 27 = nI K ∧ ci 28 = nI (2 * S) ∧ cn 29 = 2 * S ∧ cn 31 = 2 * S ∧ ci 33 = nI (K * (2 * S)) ∧ cn 36 = (K * (2 * S) + 31) / 32) ∧ (cn 39 = S ∧ cn 41 = S ∧ cn 43 = S * (S + 1) / 2 ∧ cn 45 = S + 1 ∧ cn 48 = S ∧ cn 50 = S) ∧
  (cn 54 = 1024 ∧ cn 56 = 1024 ∧ ci 58 = nI 1024 ∧ cn 61 = 32) ∧ (ci 63 = nI S ∧ ci 64 = nI K ∧ cn 69 = S ∧ cn 71 = S ∧ cn 73 = 2 * (S + K)) ∧ (ci 75 = nI S ∧ ci 76 = nI K ∧ cn 81 = S ∧ cn 83 = S ∧ cn 85 = 2 * (S + K)) ∧
  (ci 87 = nI 6000 ∧ cn 90 = 188 ∧ ci 92 = nI 6000 ∧ cn 95 = 188) ∧ (cn 98 = 600 ∧ cn 101 = 600)
/-- sizes and constants of the reference's object -/
def IvM (S K : Nat) (mi : Nat → Int32) (mn : Nat → Nat) : Prop :=
  (mi 0 = nI S ∧ mi 1 = nI K) ∧ (mn 13 = 600 ∧ mn 15 = 96 ∧ mn 17 = 96 ∧ mn 19 = 6000 ∧ mn 21 = 600) ∧ (mn 23 = 96 ∧ mn 25 = 96 ∧ mn 27 = 96 ∧ mn 29 = 192 ∧ mn 31 = 192 ∧ mn 33 = 96) ∧ (mn 35 = 4800 ∧ mn 37 = 4800 ∧ mn 39 = 25) ∧
  (mn 41 = 9409 ∧ mn 43 = 9409 ∧ mn 45 = 400) ∧ (mn 47 = 96 ∧ mn 49 = 600) ∧ (mn 51 = 16 ∧ mn 53 = 16 ∧ mn 55 = 32) ∧ (mn 57 = 1024 ∧ mn 59 = 1024 ∧ mn 61 = 1024 ∧ mn 63 = 1024)
/-- the text -/
def IvT (S T : Nat) (t : Nat → Nat) (ci : Nat → Int32) (ca : Nat → Nat → Int32) (mi : Nat → Int32) (ma : Nat → Nat → Int32) : Prop :=
  (T ≤ 600 ∧ ci 2 = nI T ∧ mi 2 = nI T) ∧ (∀ k, k < T → t k < S ∧ ca 4 k = nI (t k) ∧ ma 14 k = nI (t k)) ∧ (∀ s, s < S → ca 6 s = nI (cnt t T s))
/-- does s1 come before s in the order of the codes -/
def bef (io : Bool) (len : Nat → Nat) (s1 s : Nat) : Bool := if io then decide (s1 < s) else decide (len s1 < len s ∨ len s1 = len s ∧ s1 < s)
/-- the sum of shares of those symbols below n for which p holds -/
def stA (len : Nat → Nat) (p : Nat → Bool) : Nat → Nat
  | 0 => 0
  | n + 1 => stA len p n + (if 0 < len n ∧ p n = true then 2 ^ (24 - len n) else 0)
/-- where a symbol's code starts, in parts of 2^-24, and the code -/
def stO (io : Bool) (S : Nat) (len : Nat → Nat) (s : Nat) : Nat := stA len (fun s1 => bef io len s1 s) S
def cd (io : Bool) (S : Nat) (len : Nat → Nat) (s : Nat) : Nat := stO io S len s / 2 ^ (24 - len s)
/-- the n bits v are the beginning of a longer code; are a code -/
def isPre (io : Bool) (S : Nat) (len : Nat → Nat) (v n : Nat) : Prop := ∃ s, s < S ∧ n < len s ∧ cd io S len s / 2 ^ (len s - n) = v
def isCod (io : Bool) (S : Nat) (len : Nat → Nat) (v n s : Nat) : Prop := s < S ∧ 0 < len s ∧ len s = n ∧ cd io S len s = v
/-- the class's tree: N nodes, each a beginning, each beginning one node; what lies below each -/
def Tree (io : Bool) (S : Nat) (len : Nat → Nat) (N : Nat) (pre : Nat → Nat × Nat) (below : Nat → Int32) : Prop :=
  pre 0 = (0, 0) ∧ (∀ v, v < N → isPre io S len (pre v).1 (pre v).2) ∧ (∀ v n, isPre io S len v n → ∃ w, w < N ∧ pre w = (v, n)) ∧ (∀ v w, v < N → w < N → pre v = pre w → v = w) ∧
  ∀ v b, v < N → b < 2 → (∀ s, isCod io S len (2 * (pre v).1 + b) ((pre v).2 + 1) s → below (2 * v + b) = (-1 : Int32) - nI s) ∧ (∀ w, w < N → pre w = (2 * (pre v).1 + b, (pre v).2 + 1) → below (2 * v + b) = nI w) ∧
    ((¬ ∃ s, isCod io S len (2 * (pre v).1 + b) ((pre v).2 + 1) s) → ¬ isPre io S len (2 * (pre v).1 + b) ((pre v).2 + 1) → below (2 * v + b) = 0)
def ncA (g : Nat → Nat) : Nat → Nat
  | 0 => 0
  | n + 1 => ncA g n + (if 0 < g n then 1 else 0)
/-- a table that is loaded -/
def Ld (S K : Nat) (len : Nat → Nat) (inOrder nodes full : Int32) (codesX below codesM : Nat → Int32) : Prop :=
  ∃ io : Bool, inOrder = b01 io ∧ 0 < ncA len S ∧ stA len (fun _ => true) S ≤ 16777216 ∧ full = b01 (decide (stA len (fun _ => true) S = 16777216)) ∧
    (∀ s, s < S → 0 < len s → 2 ^ (24 - len s) ∣ stO io S len s ∧ codesX s = nI (cd io S len s) ∧ codesM s = nI (cd io S len s)) ∧
    ∃ (N : Nat) (pre : Nat → Nat × Nat), nodes = nI N ∧ 1 ≤ N ∧ (N ≤ S + K ∧ (stA len (fun _ => true) S = 16777216 → N + 1 ≤ ncA len S) ∧ ∀ x, x < stA len (fun _ => true) S → ∃ s, s < S ∧ 0 < len s ∧ stO io S len s ≤ x ∧ x < stO io S len s + 2 ^ (24 - len s)) ∧ Tree io S len N pre below
/-- the table -/
def IvL (S K : Nat) (len : Nat → Nat) (ci : Nat → Int32) (ca : Nat → Nat → Int32) (mi : Nat → Int32) (ma : Nat → Nat → Int32) : Prop :=
  (∀ s, s < S → len s ≤ K ∧ ca 70 s = nI (len s) ∧ ma 16 s = nI (len s)) ∧ (ci 66 = mi 3 ∧ (ci 66 = 0 ∨ ci 66 = 1) ∧ ci 67 = mi 4 ∧ (ci 67 = 0 ∨ ci 67 = 1) ∧ (ci 66 = 1 → ci 67 = 1)) ∧ (ci 67 = 1 → Ld S K len (ci 66) (ci 65) (ci 68) (ca 72) (ca 74) (ma 18))
/-- the bits -/
def IvB (n : Nat) (ci : Nat → Int32) (ca : Nat → Nat → Int32) (mi : Nat → Int32) (ma : Nat → Nat → Int32) : Prop :=
  (n ≤ 6000 ∧ ci 88 = nI n ∧ mi 5 = nI n) ∧ ∀ i, i < n → ma 20 i = b01 (wbit (ca 91) i)
/-- the out -/
def IvO (n : Nat) (ci : Nat → Int32) (ca : Nat → Nat → Int32) (mi : Nat → Int32) (ma : Nat → Nat → Int32) : Prop :=
  (n ≤ 600 ∧ ci 97 = nI n ∧ mi 6 = nI n) ∧ ∀ i, i < n → ca 99 i = ma 22 i
/-- the key -/
def IvK (n : Nat) (ci : Nat → Int32) (ca : Nat → Nat → Int32) (mi : Nat → Int32) (ma : Nat → Nat → Int32) : Prop :=
  (n ≤ 1024 ∧ ci 59 = nI n ∧ mi 12 = nI n) ∧ ∀ i, i < n → ma 64 i = b01 (wbit (ca 62) i)
def Inv (ci : Nat → Int32) (cn : Nat → Nat) (ca : Nat → Nat → Int32) (mi : Nat → Int32) (mn : Nat → Nat) (ma : Nat → Nat → Int32) : Prop :=
  ∃ (S K T : Nat) (t len : Nat → Nat) (nb no nk : Nat), IvC S K ci cn ∧ IvM S K mi mn ∧ IvT S T t ci ca mi ma ∧ IvL S K len ci ca mi ma ∧ IvB nb ci ca mi ma ∧ IvO no ci ca mi ma ∧ IvK nk ci ca mi ma ∧ ci 53 = mi 7
