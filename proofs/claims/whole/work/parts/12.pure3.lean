/-! parts as bits; orders by lots -/
theorem shl1 {n : Nat} (h : n ≤ 6) : (1 : Int32) <<< (nI n &&& 31) = nI (2 ^ n) := by
  have : n = 0 ∨ n = 1 ∨ n = 2 ∨ n = 3 ∨ n = 4 ∨ n = 5 ∨ n = 6 := by omega
  rcases this with rfl | rfl | rfl | rfl | rfl | rfl | rfl <;> decide
theorem pw_half {n : Nat} (h2 : 2 ≤ n) (h : n ≤ 6) : 2 ^ n = 2 * 2 ^ (n - 1) ∧ 2 ^ (n - 1) ≤ 32 ∧ 2 ≤ 2 ^ (n - 1) := by
  have : n = 2 ∨ n = 3 ∨ n = 4 ∨ n = 5 ∨ n = 6 := by omega
  rcases this with rfl | rfl | rfl | rfl | rfl <;> decide
def iiV (part i : Int32) : Int32 := if (part >>> (i &&& 31)) &&& 1 = 1 then 1 else 0
def ipV (n : Nat) (part : Int32) : Int32 := if part ≤ 0 then 0 else if nI (2 ^ n - 1) ≤ part then 0 else if iiV part 0 = 0 then 0 else 1
def acV (d : Nat → Nat → Int32) (i j k q : Nat) : Int32 := mx (d i j + d k q) (mx (d i k + d j q) (d i q + d j k)) - (d i j + d k q)
def laI (d : Nat → Nat → Int32) (part : Int32) (i j k : Nat) (a : Int32) (q : Nat) : Int32 := if iiV part (nI k) = 0 then (if iiV part (nI q) = 0 then mn a (acV d i j k q) else a) else a
def laO (n : Nat) (d : Nat → Nat → Int32) (part : Int32) (i j : Nat) (a : Int32) (k : Nat) : Int32 := lp (laI d part i j k) k (n - k) a
def laV (n : Nat) (d : Nat → Nat → Int32) (part : Int32) (i j : Nat) : Int32 := lp (laO n d part i j) 0 n 2000
def weI (n : Nat) (d : Nat → Nat → Int32) (part : Int32) (i : Nat) (a : Int32) (j : Nat) : Int32 := if iiV part (nI i) = 0 then a else if iiV part (nI j) = 0 then a else mn a (laV n d part i j)
def weO (n : Nat) (d : Nat → Nat → Int32) (part : Int32) (a : Int32) (i : Nat) : Int32 := lp (weI n d part i) i (n - i) a
def weV (n : Nat) (d : Nat → Nat → Int32) (part : Int32) : Int32 := lp (weO n d part) 0 n 2000
def hwF (n : Nat) (d : Nat → Nat → Int32) (a : Int32) (q : Nat) : Int32 := a + asA (if weV n d (nI (2 * q + 1)) ≤ 0 then 0 else 1)
def hwV (n : Nat) (d : Nat → Nat → Int32) : Int32 := lp (hwF n d) 0 (2 ^ (n - 1) - 1) 0
def loF (n : Nat) (d : Nat → Nat → Int32) (i j : Nat) (a : Int32) (q : Nat) : Int32 := if iiV (nI (2 * q + 1)) (nI i) = iiV (nI (2 * q + 1)) (nI j) then a else a - weV n d (nI (2 * q + 1))
def loV (n : Nat) (d : Nat → Nat → Int32) (i j : Nat) : Int32 := lp (loF n d i j) 0 (2 ^ (n - 1) - 1) (2 * d i j)
def fct (n : Nat) : Nat := ([1, 1, 2, 6, 24, 120, 720] : List Nat).getD n 0
theorem facV_n {k : Nat} (h : k ≤ 6) : facV (nI k).toNatClampNeg = .int (nI (fct k)) := by
  rw [nI_clamp (by omega)]
  have : k = 0 ∨ k = 1 ∨ k = 2 ∨ k = 3 ∨ k = 4 ∨ k = 5 ∨ k = 6 := by omega
  rcases this with rfl | rfl | rfl | rfl | rfl | rfl | rfl <;> rfl
theorem fct_in {k : Nat} (h : k ≤ 6) : 0 < fct k ∧ fct k ≤ 720 := by
  have : k = 0 ∨ k = 1 ∨ k = 2 ∨ k = 3 ∨ k = 4 ∨ k = 5 ∨ k = 6 := by omega
  rcases this with rfl | rfl | rfl | rfl | rfl | rfl | rfl <;> decide
def rcF (d : Nat → Nat → Int32) (i : Nat) (r : Int32) (b : Int32) (k : Nat) : Int32 := if r < d i k then b else b ||| (1 <<< (nI k &&& 31))
def rcV (n : Nat) (d : Nat → Nat → Int32) (i : Nat) (r : Int32) : Int32 := lp (rcF d i r) 0 n 0
def us (x : Int32) (k : Int32) : Int32 := (x.toUInt32 >>> (k.toUInt32 &&& Int32.toUInt32 31)).toInt32
def bc1 (x : Int32) : Int32 := x - (us x 1 &&& 1431655765)
def bc2 (x : Int32) : Int32 := (bc1 x &&& 858993459) + (us (bc1 x) 2 &&& 858993459)
def bc3 (x : Int32) : Int32 := (bc2 x + us (bc2 x) 4) &&& 252645135
def bc4 (x : Int32) : Int32 := bc3 x + us (bc3 x) 8
def bc5 (x : Int32) : Int32 := bc4 x + us (bc4 x) 16
def bctV (x : Int32) : Int32 := bc5 x &&& 63
def otV (n : Nat) (d : Nat → Nat → Int32) (i j : Nat) (r : Int32) : Int32 := if bctV (rcV n d i r ||| rcV n d j r) ≤ 0 then 0 else nI (fct n) / bctV (rcV n d i r ||| rcV n d j r) * bctV (rcV n d i r ^^^ rcV n d j r)
def uaN (u : Int32) : Nat → Nat → Int32 → Nat
  | 0, _, _ => 0
  | k + 1, q, t => if (u >>> (nI q &&& 31)) &&& 1 = 1 then (if t = 0 then q else uaN u k (q + 1) (t + -1)) else uaN u k (q + 1) t
theorem uaN_le (u : Int32) : ∀ (k q : Nat) (t : Int32), uaN u k q t = 0 ∨ uaN u k q t < q + k := by
  intro k
  induction k with
  | zero => intro q t; exact Or.inl rfl
  | succ k ih =>
    intro q t
    unfold uaN
    split
    · split
      · omega
      · have := ih (q + 1) (t + -1); omega
    · have := ih (q + 1) t; omega
theorem uaN_lt {n : Nat} (u : Int32) (t : Int32) (h : 2 ≤ n) : uaN u n 0 t < n := by
  have := uaN_le u n 0 t
  omega
def clr (u : Int32) (q : Nat) : Int32 := u &&& ((1 <<< (nI q &&& 31)) ^^^ (-1))
def fwN (n : Nat) (d : Nat → Nat → Int32) (i : Nat) (r : Int32) : Nat → Int32 → Nat → Nat
  | 0, _, _ => i
  | k + 1, u, left => if r < d i (uaN u n 0 (nI (left / fct k))) then fwN n d i r k (clr u (uaN u n 0 (nI (left / fct k)))) (left % fct k) else uaN u n 0 (nI (left / fct k))
/-- the undealt one, with so many lots for each -/
def ndN (u e : Int32) : Nat → Nat → Int32 → Nat
  | 0, _, _ => 0
  | k + 1, q, t => if (u >>> (nI q &&& 31)) &&& 1 = 1 then (if e ≤ t then ndN u e k (q + 1) (t - e) else q) else ndN u e k (q + 1) t
theorem ndN_le (u e : Int32) : ∀ (k q : Nat) (t : Int32), ndN u e k q t = 0 ∨ ndN u e k q t < q + k := by
  intro k
  induction k with
  | zero => intro q t; exact Or.inl rfl
  | succ k ih =>
    intro q t
    unfold ndN
    split
    · split
      · have := ih (q + 1) (t - e); omega
      · omega
    · have := ih (q + 1) t; omega
theorem ndN_lt {n : Nat} (u e : Int32) (t : Int32) (h : 2 ≤ n) : ndN u e n 0 t < n := by
  have := ndN_le u e n 0 t
  omega
def fwD (n : Nat) (d : Nat → Nat → Int32) (i : Nat) (r : Int32) : Nat → Int32 → Int32 → Nat
  | 0, _, _ => i
  | k + 1, u, lf => if r < d i (ndN u (nI (fct k)) n 0 lf) then fwD n d i r k (clr u (ndN u (nI (fct k)) n 0 lf)) (lf - nI (fct k) * bctV (u &&& ((1 <<< (nI (ndN u (nI (fct k)) n 0 lf) &&& 31)) - 1))) else ndN u (nI (fct k)) n 0 lf
