/-! the class's own calls -/
def tn (x : Int32) : Nat := x.toNatClampNeg
theorem tn_of {x : Int32} (h : ¬ x < 0) : x = nI (tn x) := by
  obtain ⟨j, hj, rfl⟩ := nI_of h
  unfold tn
  rw [nI_clamp hj]
theorem tn_lt {x : Int32} {n : Nat} (hn : n < 2 ^ 31) (h : ¬ x < 0) (h2 : ¬ nI n ≤ x) : tn x < n := by
  obtain ⟨j, hj, rfl⟩ := nI_of h
  unfold tn
  rw [nI_clamp hj]
  rcases Nat.lt_or_ge j n with q | q
  · exact q
  · exact absurd (nI_le q hj) h2
def kn (n : Nat) (x : Int32) : Int32 := if x < 0 then 0 else if nI n ≤ x then 0 else 1
def kn2 (n : Nat) (x y : Int32) : Int32 := if kn n x = 0 then 0 else if kn n y = 0 then 0 else 1
theorem kn_tn {n : Nat} {x : Int32} (hn : n ≤ 6) (h : ¬ kn n x = 0) : x = nI (tn x) ∧ tn x < n := by
  unfold kn at h
  by_cases h1 : x < 0
  · rw [if_pos h1] at h; exact absurd rfl h
  · rw [if_neg h1] at h
    by_cases h2 : nI n ≤ x
    · rw [if_pos h2] at h; exact absurd rfl h
    · exact ⟨tn_of h1, tn_lt (by omega) h1 h2⟩
theorem kn2_tn {n : Nat} {x y : Int32} (hn : n ≤ 6) (h : ¬ kn2 n x y = 0) : (x = nI (tn x) ∧ tn x < n) ∧ y = nI (tn y) ∧ tn y < n := by
  unfold kn2 at h
  by_cases h1 : kn n x = 0
  · rw [if_pos h1] at h; exact absurd rfl h
  · rw [if_neg h1] at h
    by_cases h2 : kn n y = 0
    · rw [if_pos h2] at h; exact absurd rfl h
    · exact ⟨kn_tn hn h1, kn_tn hn h2⟩
def icV (n : Nat) (c : Int32) : Int32 := if c < 0 then 0 else if nI (cmV n) ≤ c then 0 else 1
theorem ic_tn {n : Nat} {c : Int32} (hn : n ≤ 6) (h : ¬ icV n c = 0) : c = nI (tn c) ∧ tn c < cmV n := by
  have hcm := cmV_le hn
  unfold icV at h
  by_cases h1 : c < 0
  · rw [if_pos h1] at h; exact absurd rfl h
  · rw [if_neg h1] at h
    by_cases h2 : nI (cmV n) ≤ c
    · rw [if_pos h2] at h; exact absurd rfl h
    · exact ⟨tn_of h1, tn_lt (by omega) h1 h2⟩
def irV (r : Int32) : Int32 := if r < 0 then 0 else if 1000 < r then 0 else 1
def inV (n : Nat) (d : Nat → Nat → Int32) : Int32 := if btV n d 0 = 0 then 1 else 0
def gdF : Nat → Int32 → Int32 → Int32
  | 0, g, _ => g
  | k + 1, g, q => if q ≤ 0 then g else gdF k q (g - g / q * q)
theorem le0_ne {x : Int32} (h : ¬ x ≤ 0) : ¬ x = 0 := fun e => h (by rw [e]; decide)
theorem le1_ne {x : Int32} (h : ¬ x ≤ 1) : ¬ x = 0 := fun e => h (by rw [e]; decide)
theorem pt_tn {x : Int32} (h : ¬ x < 2) : x = nI (tn x) := tn_of (fun h0 => h (Int32.lt_trans h0 (by decide)))
def ptN (n : Nat) (x : Int32) : Nat := if x < 2 then n else if x ≤ 6 then tn x else n
def ptD (d : Nat → Nat → Int32) (x : Int32) : Nat → Nat → Int32 := if x < 2 then d else if x ≤ 6 then beginV d else d
def ptR (x : Int32) : Int32 := if x < 2 then -102 else if x ≤ 6 then x else -102
def stR (n : Nat) (d : Nat → Nat → Int32) (x y v : Int32) : Int32 := if kn2 n x y = 0 then -101 else if x = y then -101 else if v < 1 then -102 else if v ≤ 1000 then d (tn x) (tn y) else -102
def stD (n : Nat) (d : Nat → Nat → Int32) (x y v : Int32) : Nat → Nat → Int32 := if kn2 n x y = 0 then d else if x = y then d else if v < 1 then d else if v ≤ 1000 then putV d (tn x) (tn y) v else d
def gtR (n : Nat) (d : Nat → Nat → Int32) (x y : Int32) : Int32 := if kn2 n x y = 0 then -101 else d (tn x) (tn y)
def isR (n : Nat) (d : Nat → Nat → Int32) (w : Int32) : Int32 := if w = 0 then (if btV n d w = 0 then asA 1 else asA 0) else if w = 1 then (if btV n d w = 0 then asA 1 else asA 0) else if w = 2 then (if inV n d = 0 then asA 0 else if bfV n d = 0 then asA 1 else asA 0) else -102
def bkR (n : Nat) (d : Nat → Nat → Int32) (w : Int32) : Int32 := if w = 0 then btV n d w else if w = 1 then btV n d w else if w = 2 then bfV n d else -102
def lwR (n : Nat) (d md : Nat → Nat → Int32) (x y : Int32) : Int32 := if kn2 n x y = 0 then -101 else (clV n d md 1) (tn x) (tn y)
def lwM (n : Nat) (d md : Nat → Nat → Int32) (x y : Int32) : Nat → Nat → Int32 := if kn2 n x y = 0 then md else clV n d md 1
def gsR (n : Nat) (d md : Nat → Nat → Int32) (r : Int32) : Int32 := if irV r = 0 then -102 else grV n (clV n d md 1) r
def gsM (n : Nat) (d md : Nat → Nat → Int32) (r : Int32) : Nat → Nat → Int32 := if irV r = 0 then md else clV n d md 1
def sc3 {α : Type} (n : Nat) (c x y : Int32) (a b : α) : α := if icV n c = 0 then a else if kn2 n x y = 0 then a else b
def sc2 {α : Type} (n : Nat) (c p : Int32) (a b : α) : α := if icV n c = 0 then a else if p = 0 then b else if p = 1 then b else a
def sc1 {α : Type} (n : Nat) (c : Int32) (a b : α) : α := if icV n c = 0 then a else b
def jdR (n : Nat) (go ke ha : Nat → Int32) (c x y : Int32) : Int32 := if icV n c = 0 then -102 else if kn2 n x y = 0 then -101 else asA (jnV n (rdG n (tn c) go ke ha) (rdK n (tn c) ke ha) x y)
abbrev LW (n : Nat) (d : Nat → Nat → Int32) (ke ha : Nat → Int32) (wy : Nat → Nat → Int32) (c : Int32) : Nat → Nat → Int32 := lyV n d (Gn n (tn c) ke ha) (Kn n (tn c) ke ha) wy
def wyR (n : Nat) (d : Nat → Nat → Int32) (ke ha : Nat → Int32) (wy : Nat → Nat → Int32) (c x y : Int32) : Int32 := if icV n c = 0 then -102 else if kn2 n x y = 0 then -101 else LW n d ke ha wy c (tn x) (tn y)
def sdV (x g : Int32) : Int64 := if g ≤ 1 then x.toInt64 else (x / g).toInt64
def srR (n : Nat) (d : Nat → Nat → Int32) (w : Nat → Nat → Int32) (c p : Int32) : Int64 := if icV n c = 0 then -102 else if p = 0 then sdV (fsV n d w).1 (gdF 64 (fsV n d w).1 (fsV n d w).2) else if p = 1 then sdV (fsV n d w).2 (gdF 64 (fsV n d w).1 (fsV n d w).2) else -102
def spR (n : Nat) (w : Nat → Nat → Int32) (c : Int32) : Int32 := if icV n c = 0 then -102 else suV n w
def bt3 {α : Type} (w sr : Int32) (a b c : α) : α := if w = 0 then (if sr < 60 then b else a) else if w = 1 then (if sr < 60 then c else a) else a
def btR (w sr : Int32) (b c : Int32) : Int32 := if w = 0 then (if sr < 60 then b else -104) else if w = 1 then (if sr < 60 then c else -104) else -102
def gwR (n : Nat) (d w : Nat → Nat → Int32) (c : Int32) : Int32 := if icV n c = 0 then -102 else if goV n w ≤ 1000 then (bcV n d w).1 else -103
def gwD (n : Nat) (d w : Nat → Nat → Int32) (c : Int32) : Nat → Nat → Int32 := if icV n c = 0 then d else if goV n w ≤ 1000 then (bcV n d w).2 else d
def wtR (n : Nat) (d : Nat → Nat → Int32) (x : Int32) : Int32 := if ipV n x = 0 then -102 else if inV n d = 0 then -103 else weV n d x
def paR (n : Nat) (d : Nat → Nat → Int32) : Int32 := if inV n d = 0 then -103 else hwV n d
def reR (n : Nat) (d : Nat → Nat → Int32) (x y : Int32) : Int32 := if kn2 n x y = 0 then -10101 else if inV n d = 0 then -10103 else loV n d (tn x) (tn y)
def drR (n : Nat) (d : Nat → Nat → Int32) (x y r : Int32) : Int32 := if kn2 n x y = 0 then -101 else if irV r = 0 then -102 else otV n d (tn x) (tn y) r
def geR (n : Nat) (d : Nat → Nat → Int32) (x q r : Int32) : Int32 := if kn n x = 0 then -101 else if q < 0 then -102 else if nI (fct n) ≤ q then -102 else if irV r = 0 then -102 else nI (fwD n d (tn x) r n (nI (2 ^ n - 1)) (nI (tn q)))
def ctR (n : Nat) (d : Nat → Nat → Int32) (sr w : Int32) : Int32 := if w = 0 then nI n else if w = 1 then suV n d else if w = 2 then goV n d else if w = 3 then sr else -102
def tkV (h v : Int64) : Int64 := 31 * h + v
def dgI (d m : Nat → Nat → Int32) (i : Nat) (h : Int64) (j : Nat) : Int64 := tkV (tkV h (d i j).toInt64) (m i j).toInt64
def dgO (n : Nat) (d m : Nat → Nat → Int32) (h : Int64) (i : Nat) : Int64 := lp (dgI d m i) (i + 1) (n - (i + 1)) h
def dgH (n : Nat) (d m : Nat → Nat → Int32) : Int64 := lp (dgO n d m) 0 n (tkV 197 (nI n).toInt64)
def dgR (n : Nat) (d m : Nat → Nat → Int32) (sr : Int32) : Int64 := tkV (dgH n d m) sr.toInt64
theorem sw_out {w : Int32} (h0 : ¬ w = 0) (h1 : ¬ w = 1) (h2 : ¬ w = 2) (h3 : ¬ w = 3) : w.toInt < 0 ∨ 3 < w.toInt := by
  rcases Int.lt_or_le w.toInt 0 with h | h
  · exact Or.inl h
  · rcases Int.lt_or_le 3 w.toInt with g | g
    · exact Or.inr g
    · exfalso
      have : w.toInt = 0 ∨ w.toInt = 1 ∨ w.toInt = 2 ∨ w.toInt = 3 := by omega
      rcases this with e | e | e | e
      · exact h0 (Int32.toInt_inj.mp (by rw [e]; rfl))
      · exact h1 (Int32.toInt_inj.mp (by rw [e]; rfl))
      · exact h2 (Int32.toInt_inj.mp (by rw [e]; rfl))
      · exact h3 (Int32.toInt_inj.mp (by rw [e]; rfl))
