/-! the reference, as functions of its numbers -/
def grt (x y : Int32) : Int32 := if x ≤ y then y else x
def mbI (i : Nat) (t : Nat → Int32) (j : Nat) : Nat → Int32 := upd t (6 * i + j) (if nI i = nI j then 0 else 1)
def mbO (t : Nat → Int32) (i : Nat) : Nat → Int32 := lp (mbI i) 0 6 t
def mbV (t : Nat → Int32) : Nat → Int32 := lp mbO 0 6 t
def mnV (v a b : Int32) : Int32 := if v < a then 0 else if b < v then 0 else 1
theorem mn_01 (v a b : Int32) : mnV v a b = 0 ∨ mnV v a b = 1 := by
  unfold mnV
  split
  · exact Or.inl rfl
  · split
    · exact Or.inl rfl
    · exact Or.inr rfl
theorem mn_tn {x : Int32} {b : Nat} (hb : b < 2 ^ 30) (h : ¬ mnV x 0 (nI b) = 0) : x = nI (tn x) ∧ tn x ≤ b := by
  unfold mnV at h
  by_cases h1 : x < 0
  · rw [if_pos h1] at h; exact absurd rfl h
  · rw [if_neg h1] at h
    by_cases h2 : nI b < x
    · rw [if_pos h2] at h; exact absurd rfl h
    · have e := tn_of h1
      refine ⟨e, ?_⟩
      rcases Nat.lt_or_ge b (tn x) with q | q
      · exfalso
        obtain ⟨j, hj, e2⟩ := nI_of h1
        have e3 : tn x = j := by unfold tn; rw [e2, nI_clamp hj]
        exact h2 (by rw [e2]; exact nI_lt (by omega) hj)
      · exact q
abbrev knM (n : Nat) (x : Int32) : Int32 := mnV x 0 (nI (n - 1))
theorem knM_tn {n : Nat} {x : Int32} (hn : n ≤ 6) (h2 : 2 ≤ n) (h : ¬ knM n x = 0) : x = nI (tn x) ∧ tn x < n := by
  have := mn_tn (by omega) h
  exact ⟨this.1, by omega⟩
theorem mn26 {x : Int32} (h : ¬ mnV x 2 6 = 0) : x = nI (tn x) ∧ 2 ≤ tn x ∧ tn x ≤ 6 := by
  unfold mnV at h
  by_cases h1 : x < 2
  · rw [if_pos h1] at h; exact absurd rfl h
  · rw [if_neg h1] at h
    by_cases h2 : (6 : Int32) < x
    · rw [if_pos h2] at h; exact absurd rfl h
    · have h0 : ¬ x < 0 := fun q => h1 (Int32.lt_trans q (by decide))
      obtain ⟨j, hj, e2⟩ := nI_of h0
      have e3 : tn x = j := by unfold tn; rw [e2, nI_clamp hj]
      refine ⟨tn_of h0, ?_, ?_⟩
      · rcases Nat.lt_or_ge j 2 with q | q
        · exact absurd (show x < 2 by rw [e2]; exact (show nI j < nI 2 from nI_lt q (by decide))) h1
        · omega
      · rcases Nat.lt_or_ge 6 j with q | q
        · exact absurd (show (6 : Int32) < x by rw [e2]; exact (show nI 6 < nI j from nI_lt q hj)) h2
        · omega
def mpN (n : Nat) (x : Int32) : Nat := if mnV x 2 6 = 0 then n else tn x
def mpT (t : Nat → Int32) (x : Int32) : Nat → Int32 := if mnV x 2 6 = 0 then t else mbV t
def mpR (x : Int32) : Int32 := if mnV x 2 6 = 0 then -102 else x
def msR (n : Nat) (t : Nat → Int32) (x y v : Int32) : Int32 := if knM n x = 0 then -101 else if knM n y = 0 then -101 else if x = y then -101 else if mnV v 1 1000 = 0 then -102 else t (6 * tn x + tn y)
def msT (n : Nat) (t : Nat → Int32) (x y v : Int32) : Nat → Int32 := if knM n x = 0 then t else if knM n y = 0 then t else if x = y then t else if mnV v 1 1000 = 0 then t else upd (upd t (6 * tn x + tn y) v) (6 * tn y + tn x) v
def mgR (n : Nat) (t : Nat → Int32) (x y : Int32) : Int32 := if knM n x = 0 then -101 else if knM n y = 0 then -101 else t (6 * tn x + tn y)
abbrev af1 (t : Nat → Int32) (i j k q : Nat) : Int32 := t (6 * i + j) + t (6 * k + q)
abbrev afm (t : Nat → Int32) (i j k q : Nat) : Int32 := grt (af1 t i j k q) (grt (af1 t i k j q) (af1 t i q j k))
def afV (t : Nat → Int32) (i j k q : Nat) : Int32 := if (if af1 t i j k q = afm t i j k q then (1 : Int32) else 0) + (if af1 t i k j q = afm t i j k q then 1 else 0) + (if af1 t i q j k = afm t i j k q then 1 else 0) ≤ 1 then 0 else 1
def boB (t : Nat → Int32) (w : Int32) (i j : Nat) (a : Int32) (k : Nat) : Int32 :=
  if w = 0 then a + (if nI k = nI i then 0 else if nI k = nI j then 0 else if t (6 * i + j) ≤ t (6 * i + k) + t (6 * k + j) then 0 else 1)
  else a + (if nI k = nI i then 0 else if nI k = nI j then 0 else if t (6 * i + j) ≤ grt (t (6 * i + k)) (t (6 * k + j)) then 0 else 1)
def bo3 (t : Nat → Int32) (i j k : Nat) (a : Int32) (q : Nat) : Int32 := a + (if afV t i j k q = 0 then 1 else 0)
def bo2 (n : Nat) (t : Nat → Int32) (i j : Nat) (a : Int32) (k : Nat) : Int32 := lp (bo3 t i j k) (k + 1) (n - (k + 1)) a
def bo1 (t : Nat → Int32) (w : Int32) (i j k f : Nat) (a : Int32) : Int32 := if 2 ≤ w then a else lp (boB t w i j) k f a
def bo4 (n : Nat) (t : Nat → Int32) (w : Int32) (i j k f : Nat) (a : Int32) : Int32 := if w = 2 then lp (bo2 n t i j) k f a else a
def boJ (n : Nat) (t : Nat → Int32) (w : Int32) (i : Nat) (a : Int32) (j : Nat) : Int32 := bo4 n t w i j (j + 1) (n - (j + 1)) (bo1 t w i j 0 n a)
def boO (n : Nat) (t : Nat → Int32) (w : Int32) (a : Int32) (i : Nat) : Int32 := lp (boJ n t w i) (i + 1) (n - (i + 1)) a
def boV (n : Nat) (t : Nat → Int32) (w : Int32) : Int32 := lp (boO n t w) 0 n 0
def miR (n : Nat) (t : Nat → Int32) (w : Int32) : Int32 := if mnV w 0 2 = 0 then -102 else if boV n t w = 0 then (if w < 2 then 1 else if boV n t 0 = 0 then 1 else 0) else 0
def mkR (n : Nat) (t : Nat → Int32) (w : Int32) : Int32 := if mnV w 0 2 = 0 then -102 else boV n t w
def mcI (md : Nat → Int32) (i : Nat) (p : Int32 × (Nat → Int32)) (j : Nat) : Int32 × (Nat → Int32) := (p.1 + (if md (6 * i + j) = p.2 (6 * i + j) then 0 else 1), upd (upd p.2 (6 * i + j) (md (6 * i + j))) (6 * j + i) (md (6 * i + j)))
def mcO (n : Nat) (md : Nat → Int32) (p : Int32 × (Nat → Int32)) (i : Nat) : Int32 × (Nat → Int32) := lp (mcI md i) (i + 1) (n - (i + 1)) p
def mcV (n : Nat) (t md : Nat → Int32) : Int32 × (Nat → Int32) := lp (mcO n md) 0 n (0, t)
def mkC (t md : Nat → Int32) : Nat → Int32 := lp (fun m k => upd m k (t k)) 0 36 md
def mkJ (z : Int32) (k i : Nat) (m : Nat → Int32) (j : Nat) : Nat → Int32 :=
  if z = 0 then upd m (6 * i + j) (if m (6 * i + j) ≤ grt (m (6 * i + k)) (m (6 * k + j)) then m (6 * i + j) else grt (m (6 * i + k)) (m (6 * k + j)))
  else upd m (6 * i + j) (if m (6 * i + j) ≤ m (6 * i + k) + m (6 * k + j) then m (6 * i + j) else m (6 * i + k) + m (6 * k + j))
def mkI (n : Nat) (z : Int32) (k : Nat) (m : Nat → Int32) (i : Nat) : Nat → Int32 := lp (mkJ z k i) 0 n m
def mkK (n : Nat) (z : Int32) (m : Nat → Int32) (k : Nat) : Nat → Int32 := lp (mkI n z k) 0 n m
def mkV (n : Nat) (t md : Nat → Int32) (z : Int32) : Nat → Int32 := lp (mkK n z) 0 n (mkC t md)
def mlR (n : Nat) (t md : Nat → Int32) (x y : Int32) : Int32 := if knM n x = 0 then -101 else if knM n y = 0 then -101 else mkV n t md 0 (6 * tn x + tn y)
def kn2M {α : Type} (n : Nat) (x y : Int32) (a b : α) : α := if knM n x = 0 then a else if knM n y = 0 then a else b
def maI (t m : Nat → Int32) (i : Nat) (a : Int32) (j : Nat) : Int32 := grt a (t (6 * i + j) - m (6 * i + j))
def maO (n : Nat) (t m : Nat → Int32) (a : Int32) (i : Nat) : Int32 := lp (maI t m i) 0 n a
def maV (n : Nat) (t m : Nat → Int32) : Int32 := lp (maO n t m) 0 n 0
def mrI (m : Nat → Int32) (r : Int32) (i : Nat) (b : Int32) (j : Nat) : Int32 := if b = 0 then 0 else if m (6 * i + j) ≤ r then 0 else 1
def mrO (m : Nat → Int32) (r : Int32) (a : Int32) (i : Nat) : Int32 := a + (if lp (mrI m r i) 0 i 1 = 0 then 0 else 1)
def mrV (n : Nat) (m : Nat → Int32) (r : Int32) : Int32 := lp (mrO m r) 0 n 0
def mrR (n : Nat) (t md : Nat → Int32) (r : Int32) : Int32 := if mnV r 0 1000 = 0 then -102 else mrV n (mkV n t md 0) r
def mrM (n : Nat) (t md : Nat → Int32) (r : Int32) : Nat → Int32 := if mnV r 0 1000 = 0 then md else mkV n t md 0
theorem lp_cm (n : Nat) : ∀ (k i j a : Nat), lp (fun m _ => m * n) i k a = lp (fun m _ => m * n) j k a := by
  intro k
  induction k with
  | zero => intro i j a; rfl
  | succ k ih => intro i j a; exact ih (i + 1) (j + 1) (a * n)
theorem cmV_pos {n : Nat} (h2 : 2 ≤ n) (h : n ≤ 6) : 1 ≤ cmV n := by
  have : n = 2 ∨ n = 3 ∨ n = 4 ∨ n = 5 ∨ n = 6 := by omega
  rcases this with rfl | rfl | rfl | rfl | rfl <;> decide
theorem cmV_pow {n : Nat} (h2 : 2 ≤ n) (h : n ≤ 6) : cmV n = n ^ (n - 2) := by
  have : n = 2 ∨ n = 3 ∨ n = 4 ∨ n = 5 ∨ n = 6 := by omega
  rcases this with rfl | rfl | rfl | rfl | rfl <;> decide
abbrev icM (n : Nat) (c : Int32) : Int32 := mnV c 0 (nI (cmV n - 1))
theorem icM_tn {n : Nat} {c : Int32} (hn : n ≤ 6) (h2 : 2 ≤ n) (h : ¬ icM n c = 0) : c = nI (tn c) ∧ tn c < cmV n := by
  have h1 := cmV_le hn
  have h3 := cmV_pos h2 hn
  have := mn_tn (by omega) h
  exact ⟨this.1, by omega⟩
def jdU (f : Nat → Int32) (a b : Nat) : Nat → Int32 := upd (upd f (6 * a + b) 1) (6 * b + a) 1
def jnU (f : Nat → Int32) (a b : Nat) : Nat → Int32 := upd (upd f a (f a - 1)) b (upd f a (f a - 1) b - 1)
/-- the first place below 6 that holds 1, else 6 -/
def lfV (f : Nat → Int32) : Nat := tlF f 6 0
def z36 (f : Nat → Int32) : Nat → Int32 := lp (fun g k => upd g k 0) 0 36 f
def mj1 (n : Nat) (f : Nat → Int32) : Nat → Int32 := lp (fun g v => upd g v 1) 0 n f
def mjC (n : Nat) : Nat → Nat → (Nat → Int32) → Nat → Int32
  | 0, _, f => f
  | k + 1, left, f => mjC n k (left / n) (upd f (left % n) (f (left % n) + 1))
def mjq (n cd : Nat) (j0 : Nat → Int32) : Nat → Nat → Int32
  | 0 => j0
  | s + 1 => jnU (mjq n cd j0 s) (lfV (mjq n cd j0 s)) (figV n cd s)
def mjd (n cd : Nat) (j0 f0 : Nat → Int32) : Nat → Nat → Int32
  | 0 => f0
  | s + 1 => jdU (mjd n cd j0 f0 s) (lfV (mjq n cd j0 s)) (figV n cd s)
def mj0 (n cd : Nat) (jn : Nat → Int32) : Nat → Int32 := mjC n (n - 2) cd (mj1 n jn)
abbrev mla (n cd : Nat) (jn : Nat → Int32) : Nat := lfV (mjq n cd (mj0 n cd jn) (n - 2))
abbrev mlb (n cd : Nat) (jn : Nat → Int32) : Nat := lfV (upd (mjq n cd (mj0 n cd jn) (n - 2)) (mla n cd jn) 0)
def LfOK (n cd : Nat) (jn : Nat → Int32) : Prop := (∀ s, s ≤ n - 2 → lfV (mjq n cd (mj0 n cd jn) s) < 6) ∧ mlb n cd jn < 6
def mlD (n cd : Nat) (jd jn : Nat → Int32) : Nat → Int32 := jdU (mjd n cd (mj0 n cd jn) (z36 jd) (n - 2)) (mla n cd jn) (mlb n cd jn)
def mlN (n cd : Nat) (jn : Nat → Int32) : Nat → Int32 := jnU (upd (upd (mjq n cd (mj0 n cd jn) (n - 2)) (mla n cd jn) 0) (mla n cd jn) 1) (mla n cd jn) (mlb n cd jn)
theorem pow_dn {n s : Nat} (h2 : 2 ≤ n) (h : s < n - 2) : n ^ (n - 2 - s) / n = n ^ (n - 2 - (s + 1)) := by
  rw [show n - 2 - s = (n - 2 - (s + 1)) + 1 by omega, Nat.pow_succ]
  exact Nat.mul_div_cancel _ (by omega)
theorem pow_in {n s : Nat} (h2 : 2 ≤ n) (h : n ≤ 6) : 0 < n ^ (n - 2 - s) ∧ n ^ (n - 2 - s) ≤ 1296 := by
  refine ⟨Nat.pow_pos (by omega), ?_⟩
  have h1 : n ^ (n - 2 - s) ≤ n ^ (n - 2) := Nat.pow_le_pow_right (by omega) (by omega)
  have h3 := cmV_le h
  rw [cmV_pow h2 h] at h3
  omega
def gwI (jd t : Nat → Int32) (i : Nat) (w : Nat → Int32) (j : Nat) : Nat → Int32 := upd w (6 * i + j) (if nI i = nI j then 0 else if jd (6 * i + j) = 0 then 1000000 else t (6 * i + j))
def gwO (n : Nat) (jd t : Nat → Int32) (w : Nat → Int32) (i : Nat) : Nat → Int32 := lp (gwI jd t i) 0 n w
def gwV (n : Nat) (jd t w : Nat → Int32) : Nat → Int32 := lp (gwO n jd t) 0 n w
def fwJ (k i : Nat) (w : Nat → Int32) (j : Nat) : Nat → Int32 := upd w (6 * i + j) (if w (6 * i + j) ≤ w (6 * i + k) + w (6 * k + j) then w (6 * i + j) else w (6 * i + k) + w (6 * k + j))
def fwI (n k : Nat) (w : Nat → Int32) (i : Nat) : Nat → Int32 := lp (fwJ k i) 0 n w
def fwK (n : Nat) (w : Nat → Int32) (k : Nat) : Nat → Int32 := lp (fwI n k) 0 n w
def mgo (n : Nat) (t : Nat → Int32) (jd jn wm : Nat → Int32) (cd : Nat) : Nat → Int32 := lp (fwK n) 0 n (gwV n (mlD n cd jd jn) t wm)
def m3 {α : Type} (n : Nat) (c x y : Int32) (a b : α) : α := if icM n c = 0 then a else if knM n x = 0 then a else if knM n y = 0 then a else b
def mjR (n : Nat) (jd jn : Nat → Int32) (c x y : Int32) : Int32 := if icM n c = 0 then -102 else if knM n x = 0 then -101 else if knM n y = 0 then -101 else if mlD n (tn c) jd jn (6 * tn x + tn y) = 0 then 0 else 1
def mwR (n : Nat) (t jd jn wm : Nat → Int32) (c x y : Int32) : Int32 := if icM n c = 0 then -102 else if knM n x = 0 then -101 else if knM n y = 0 then -101 else mgo n t jd jn wm (tn c) (6 * tn x + tn y)
def msI (t w : Nat → Int32) (i : Nat) (p : Int64 × Int64) (j : Nat) : Int64 × Int64 := if lg_cmp ((w (6 * i + j)).toInt64 * p.2) (p.1 * (t (6 * i + j)).toInt64) ≤ 0 then p else ((w (6 * i + j)).toInt64, (t (6 * i + j)).toInt64)
def msO (n : Nat) (t w : Nat → Int32) (p : Int64 × Int64) (i : Nat) : Int64 × Int64 := lp (msI t w i) (i + 1) (n - (i + 1)) p
def msV (n : Nat) (t w : Nat → Int32) : Int64 × Int64 := lp (msO n t w) 0 n (0, 1)
def mpI (w : Nat → Int32) (i : Nat) (a : Int32) (j : Nat) : Int32 := a + w (6 * i + j)
def mpO (n : Nat) (w : Nat → Int32) (a : Int32) (i : Nat) : Int32 := lp (mpI w i) (i + 1) (n - (i + 1)) a
def mpV (n : Nat) (w : Nat → Int32) : Int32 := lp (mpO n w) 0 n 0
def gdL : Nat → Int64 → Int64 → Int64
  | 0, x, _ => x
  | k + 1, x, y => if lg_cmp y 0 = 0 then x else gdL k y (x - x / y * y)
def gdT : Nat → Int64 → Int64 → Prop
  | 0, _, y => lg_cmp y 0 = 0
  | k + 1, x, y => lg_cmp y 0 = 0 ∨ gdT k y (x - x / y * y)
theorem lg_ne {y : Int64} (h : ¬ lg_cmp y 0 = 0) : ¬ y = 0 := fun e => h (by rw [e]; decide)
/-- far more turns than any pair needs -/
def K2 : Nat := 2000
def mtR (n : Nat) (t w : Nat → Int32) (c p : Int32) : Int64 := if icM n c = 0 then -102 else if mnV p 0 1 = 0 then -102 else if p = 0 then (msV n t w).1 / gdL K2 (msV n t w).1 (msV n t w).2 else (msV n t w).2 / gdL K2 (msV n t w).1 (msV n t w).2
def m2 {α : Type} (n : Nat) (c p : Int32) (a b : α) : α := if icM n c = 0 then a else if mnV p 0 1 = 0 then a else b
def m1 {α : Type} (n : Nat) (c : Int32) (a b : α) : α := if icM n c = 0 then a else b
def mqR (n : Nat) (w : Nat → Int32) (c : Int32) : Int32 := if icM n c = 0 then -102 else mpV n w
abbrev MSc : Type := (Nat → Int32) × (Nat → Int32) × (Nat → Int32)
def mgS (n : Nat) (t : Nat → Int32) (z : MSc) (cd : Nat) : MSc := (mlD n cd z.1 z.2.1, mlN n cd z.2.1, mgo n t z.1 z.2.1 z.2.2 cd)
abbrev bmm (n : Nat) (t : Nat → Int32) (w : Int32) (f : Nat → Int32) : Int64 := if w = 0 then (msV n t f).1 else (mpV n f).toInt64
abbrev bmb (n : Nat) (t : Nat → Int32) (w : Int32) (f : Nat → Int32) : Int64 := if w = 0 then (msV n t f).2 else 1
abbrev BA : Type := Int32 × Int64 × Int64 × Int64 × Int64 × MSc
def bmN (n : Nat) (t : Nat → Int32) (p : BA) (z : MSc) : BA := (p.1, p.2.1, p.2.2.1, (msV n t z.2.2).1, (msV n t z.2.2).2, z)
def bmU (n : Nat) (t : Nat → Int32) (q : Nat) (u v : Int64) (z : MSc) : BA := (nI q, u, v, (msV n t z.2.2).1, (msV n t z.2.2).2, z)
def bmF (n : Nat) (t : Nat → Int32) (w : Int32) (p : BA) (q : Nat) : BA :=
  if w = 0 then (if p.1 = -1 then bmU n t q (msV n t (mgS n t p.2.2.2.2.2 q).2.2).1 (msV n t (mgS n t p.2.2.2.2.2 q).2.2).2 (mgS n t p.2.2.2.2.2 q)
    else if 0 ≤ lg_cmp ((msV n t (mgS n t p.2.2.2.2.2 q).2.2).1 * p.2.2.1) (p.2.1 * (msV n t (mgS n t p.2.2.2.2.2 q).2.2).2) then bmN n t p (mgS n t p.2.2.2.2.2 q)
    else bmU n t q (msV n t (mgS n t p.2.2.2.2.2 q).2.2).1 (msV n t (mgS n t p.2.2.2.2.2 q).2.2).2 (mgS n t p.2.2.2.2.2 q))
  else (if p.1 = -1 then bmU n t q (mpV n (mgS n t p.2.2.2.2.2 q).2.2).toInt64 1 (mgS n t p.2.2.2.2.2 q)
    else if 0 ≤ lg_cmp ((mpV n (mgS n t p.2.2.2.2.2 q).2.2).toInt64 * p.2.2.1) (p.2.1 * 1) then bmN n t p (mgS n t p.2.2.2.2.2 q)
    else bmU n t q (mpV n (mgS n t p.2.2.2.2.2 q).2.2).toInt64 1 (mgS n t p.2.2.2.2.2 q))
def bmV (n : Nat) (t : Nat → Int32) (w : Int32) (ab be : Int64) (z : MSc) : BA := lp (bmF n t w) 0 (cmV n) (-1, 0, 1, ab, be, z)
def mb2 {α : Type} (w bs : Int32) (a b : α) : α := if mnV w 0 1 = 0 then a else if bs = 60 then a else b
def mbR (w bs b : Int32) : Int32 := if mnV w 0 1 = 0 then -102 else if bs = 60 then -104 else b
def ggI (w : Nat → Int32) (i : Nat) (p : Int32 × (Nat → Int32)) (j : Nat) : Int32 × (Nat → Int32) := (if p.1 = 0 then 0 else if 1000 < w (6 * i + j) then 0 else 1, upd p.2 (6 * i + j) (w (6 * i + j)))
def ggO (n : Nat) (w : Nat → Int32) (p : Int32 × (Nat → Int32)) (i : Nat) : Int32 × (Nat → Int32) := lp (ggI w i) 0 n p
def ggV (n : Nat) (w md : Nat → Int32) : Int32 × (Nat → Int32) := lp (ggO n w) 0 n (1, md)
def mwG (n : Nat) (t w md : Nat → Int32) (c : Int32) : Int32 := if icM n c = 0 then -102 else if (ggV n w md).1 = 0 then -103 else (mcV n t (ggV n w md).2).1
def mwT (n : Nat) (t w md : Nat → Int32) (c : Int32) : Nat → Int32 := if icM n c = 0 then t else if (ggV n w md).1 = 0 then t else (mcV n t (ggV n w md).2).2
def ipM (n : Nat) (x : Int32) : Int32 := if mnV x 1 (nI (2 ^ n - 2)) = 0 then 0 else if x &&& 1 = 1 then 1 else 0
abbrev shr (x : Int32) (i : Nat) : Int32 := x >>> (nI i &&& 31)
def wfL (t : Nat → Int32) (x : Int32) (i j k : Nat) (a : Int32) (q : Nat) : Int32 :=
  if (shr x i &&& shr x j) &&& 1 = 1 then (if (shr x k ||| shr x q) &&& 1 = 0 then (if a ≤ afm t i j k q - t (6 * i + j) - t (6 * k + q) then a else afm t i j k q - t (6 * i + j) - t (6 * k + q)) else a) else a
def wfK (n : Nat) (t : Nat → Int32) (x : Int32) (i j : Nat) (a : Int32) (k : Nat) : Int32 := lp (wfL t x i j k) k (n - k) a
def wfJ (n : Nat) (t : Nat → Int32) (x : Int32) (i : Nat) (a : Int32) (j : Nat) : Int32 := lp (wfK n t x i j) 0 n a
def wfI (n : Nat) (t : Nat → Int32) (x : Int32) (a : Int32) (i : Nat) : Int32 := lp (wfJ n t x i) i (n - i) a
def wfV (n : Nat) (t : Nat → Int32) (x : Int32) : Int32 := lp (wfI n t x) 0 n 1000000
def wgR (n : Nat) (t : Nat → Int32) (x : Int32) : Int32 := if ipM n x = 0 then -102 else if boV n t 0 ≤ 0 then wfV n t x else -103
def qaF (n : Nat) (t : Nat → Int32) (a : Int32) (q : Nat) : Int32 := a + (if wfV n t (nI (2 * q + 1)) ≤ 0 then 0 else 1)
def qaV (n : Nat) (t : Nat → Int32) : Int32 := lp (qaF n t) 0 (2 ^ (n - 1) - 1) 0
def qaR (n : Nat) (t : Nat → Int32) : Int32 := if boV n t 0 ≤ 0 then qaV n t else -103
def qrF (n : Nat) (t : Nat → Int32) (x y : Nat) (a : Int32) (q : Nat) : Int32 := a - (if (shr (nI (2 * q + 1)) x ^^^ shr (nI (2 * q + 1)) y) &&& 1 = 1 then wfV n t (nI (2 * q + 1)) else 0)
def qrV (n : Nat) (t : Nat → Int32) (x y : Nat) : Int32 := lp (qrF n t x y) 0 (2 ^ (n - 1) - 1) (2 * t (6 * x + y))
def qrR (n : Nat) (t : Nat → Int32) (x y : Int32) : Int32 := if knM n x = 0 then -10101 else if knM n y = 0 then -10101 else if boV n t 0 ≤ 0 then qrV n t (tn x) (tn y) else -10103
theorem fct_dn {m : Nat} (h : m ≤ 5) : fct (m + 1) / (m + 1) = fct m := by
  have : m = 0 ∨ m = 1 ∨ m = 2 ∨ m = 3 ∨ m = 4 ∨ m = 5 := by omega
  rcases this with rfl | rfl | rfl | rfl | rfl | rfl <;> decide
theorem fct_lp {n : Nat} (h2 : 2 ≤ n) (h : n ≤ 6) : lp (fun m k => m * k) 2 (n - 1) 1 = fct n := by
  have : n = 2 ∨ n = 3 ∨ n = 4 ∨ n = 5 ∨ n = 6 := by omega
  rcases this with rfl | rfl | rfl | rfl | rfl <;> decide
def mdW (tk : Int32) : Nat → Nat → Int32 → Nat
  | 0, p, _ => p
  | f + 1, p, sk => if shr tk p &&& 1 = 1 then mdW tk f (p + 1) (sk - 0) else if sk ≤ 0 then p else mdW tk f (p + 1) (sk - 1)
def mdP (tk : Int32) (left f : Nat) : Nat := mdW tk 6 0 (nI (left / fct f))
def mdT (tk : Int32) (left f : Nat) : Int32 := tk ||| (1 <<< (nI (mdP tk left f) &&& 31))
def mdF : Nat → Nat → Nat → Int32 → (Nat → Int32) → Nat → Int32
  | 0, _, _, _, od => od
  | f + 1, k, left, tk, od => mdF f (k + 1) (left % fct f) (mdT tk left f) (upd od k (nI (mdP tk left f)))
def mdK : Nat → Nat → Int32 → Prop
  | 0, _, _ => True
  | f + 1, left, tk => mdP tk left f < 6 ∧ mdK f (left % fct f) (mdT tk left f)
def mdO : Nat → Nat → Int32 → Nat → Nat
  | 0, _, _, _ => 0
  | f + 1, left, tk, j => if j = 0 then mdP tk left f else mdO f (left % fct f) (mdT tk left f) (j - 1)
theorem mdF_lo : ∀ (f k left : Nat) (tk : Int32) (od : Nat → Int32) (j : Nat), j < k → mdF f k left tk od j = od j := by
  intro f
  induction f with
  | zero => intro k left tk od j h; rfl
  | succ f ih =>
    intro k left tk od j h
    rw [mdF, ih _ _ _ _ _ (by omega), pk_un (by omega)]
theorem mdF_at : ∀ (f k left : Nat) (tk : Int32) (od : Nat → Int32) (j : Nat), j < f → mdF f k left tk od (k + j) = nI (mdO f left tk j) := by
  intro f
  induction f with
  | zero => intro k left tk od j h; omega
  | succ f ih =>
    intro k left tk od j h
    rw [mdF, mdO]
    by_cases e : j = 0
    · subst e
      rw [mdF_lo _ _ _ _ _ _ (by omega), if_pos rfl]
      exact pk_us
    · rw [if_neg e, show k + j = (k + 1) + (j - 1) by omega]
      exact ih _ _ _ _ _ (by omega)
theorem mdO_lt : ∀ (f left : Nat) (tk : Int32) (j : Nat), mdK f left tk → mdO f left tk j < 6 := by
  intro f
  induction f with
  | zero => intro left tk j h; rw [mdO]; decide
  | succ f ih =>
    intro left tk j h
    rw [mdO]
    split
    · exact h.1
    · exact ih _ _ _ h.2
def gfF (t : Nat → Int32) (O : Nat → Nat) (i : Nat) (r : Int32) : Nat → Nat → Nat
  | 0, k => k
  | f + 1, k => if t (6 * i + O k) ≤ r then k else gfF t O i r f (k + 1)
def GoOK (n : Nat) (t : Nat → Int32) (i : Nat) (r : Int32) (lot : Nat) : Prop := gfF t (mdO n lot 0) i r n 0 < n
abbrev goal (n : Nat) (t : Nat → Int32) (i : Nat) (r : Int32) (lot : Nat) : Nat := mdO n lot 0 (gfF t (mdO n lot 0) i r n 0)
def drF (n : Nat) (t : Nat → Int32) (i j : Nat) (r : Int32) (p : Int32 × (Nat → Int32)) (q : Nat) : Int32 × (Nat → Int32) := (p.1 + (if nI (goal n t i r q) = nI (goal n t j r q) then 0 else 1), mdF n 0 q 0 p.2)
def drV (n : Nat) (t od : Nat → Int32) (i j : Nat) (r : Int32) : Int32 × (Nat → Int32) := lp (drF n t i j r) 0 (fct n) (0, od)
def d3 {α : Type} (n : Nat) (x y r : Int32) (a b : α) : α := if knM n x = 0 then a else if knM n y = 0 then a else if mnV r 0 1000 = 0 then a else b
def drM (n : Nat) (t od : Nat → Int32) (x y r : Int32) : Int32 := if knM n x = 0 then -101 else if knM n y = 0 then -101 else if mnV r 0 1000 = 0 then -102 else (drV n t od (tn x) (tn y) r).1
def gsR2 (n : Nat) (t : Nat → Int32) (x q r : Int32) : Int32 := if knM n x = 0 then -101 else if mnV q 0 (nI (fct n - 1)) = 0 then -102 else if mnV r 0 1000 = 0 then -102 else nI (goal n t (tn x) r (tn q))
def g3 {α : Type} (n : Nat) (x q r : Int32) (a b : α) : α := if knM n x = 0 then a else if mnV q 0 (nI (fct n - 1)) = 0 then a else if mnV r 0 1000 = 0 then a else b
def cnI (t : Nat → Int32) (i : Nat) (p : Int32 × Int32) (j : Nat) : Int32 × Int32 := (p.1 + t (6 * i + j), grt p.2 (t (6 * i + j)))
def cnO (n : Nat) (t : Nat → Int32) (p : Int32 × Int32) (i : Nat) : Int32 × Int32 := lp (cnI t i) (i + 1) (n - (i + 1)) p
def cnV (n : Nat) (t : Nat → Int32) : Int32 × Int32 := lp (cnO n t) 0 n (0, 0)
def cnR (n : Nat) (t : Nat → Int32) (bs w : Int32) : Int32 := if w = 0 then nI n else if w = 1 then (cnV n t).1 else if w = 2 then (cnV n t).2 else if w = 3 then bs else -102
def mxV (h v : Int64) : Int64 := 31 * h + v
def dmI (t m : Nat → Int32) (i : Nat) (h : Int64) (j : Nat) : Int64 := mxV (mxV h (t (6 * i + j)).toInt64) (m (6 * i + j)).toInt64
def dmO (n : Nat) (t m : Nat → Int32) (h : Int64) (i : Nat) : Int64 := lp (dmI t m i) (i + 1) (n - (i + 1)) h
def dmH (n : Nat) (t m : Nat → Int32) : Int64 := lp (dmO n t m) 0 n (mxV 197 (nI n).toInt64)
def dmR (n : Nat) (t m : Nat → Int32) (bs : Int32) : Int64 := mxV (dmH n t m) bs.toInt64
