/-! spanning trees: the code read, the ways laid -/
theorem nI_m3 {n : Nat} (h : 2 ≤ n) : nI n - 3 = nI (n - 2) - 1 := by
  obtain ⟨m, rfl⟩ : ∃ m, n = m + 2 := ⟨n - 2, by omega⟩
  rw [show m + 2 - 2 = m by omega, ← nI_add m 2, Int32.sub_eq_add_neg, Int32.add_assoc, Int32.sub_eq_add_neg]
  rfl
theorem nI_pm {n : Nat} (h : 2 ≤ n) : nI (n - 2) = nI (n - 1) - 1 := by
  rw [show n - 1 = (n - 2) + 1 by omega]
  exact (nI_pred (n - 2)).symm
theorem nI_dn (k : Nat) : nI k + Int32.ofInt (-1) = nI k - 1 := by
  rw [Int32.sub_eq_add_neg]
  rfl
def cmV (n : Nat) : Nat := lp (fun m _ => m * n) 0 (n - 2) 1
theorem cmV_le {n : Nat} (h : n ≤ 6) : cmV n ≤ 1296 := by
  have : n = 0 ∨ n = 1 ∨ n = 2 ∨ n = 3 ∨ n = 4 ∨ n = 5 ∨ n = 6 := by omega
  rcases this with rfl | rfl | rfl | rfl | rfl | rfl | rfl <;> decide
def rfV (n : Nat) : Nat → Nat → (Nat → Int32) → (Nat → Int32) → (Nat → Int32) × (Nat → Int32)
  | 0, _, ke, ha => (ke, ha)
  | k + 1, left, ke, ha => rfV n k (left / n) (upd ke k (nI (left % n))) (upd ha (left % n) (ha (left % n) + 1))
def figV (n cd s : Nat) : Nat := cd / n ^ (n - 2 - (s + 1)) % n
theorem rfV_hi (n : Nat) : ∀ (k left : Nat) (ke ha : Nat → Int32) (s : Nat), k ≤ s → (rfV n k left ke ha).1 s = ke s := by
  intro k
  induction k with
  | zero => intro left ke ha s _; rfl
  | succ k ih =>
    intro left ke ha s h
    rw [rfV, ih _ _ _ _ (by omega), pk_un (by omega)]
theorem rfV_lo (n : Nat) : ∀ (k left : Nat) (ke ha : Nat → Int32) (s : Nat), s < k → (rfV n k left ke ha).1 s = nI (left / n ^ (k - (s + 1)) % n) := by
  intro k
  induction k with
  | zero => intro left ke ha s h; omega
  | succ k ih =>
    intro left ke ha s h
    rw [rfV]
    by_cases e : s = k
    · subst e
      rw [rfV_hi _ _ _ _ _ _ (Nat.le_refl _), pk_us]
      simp
    · rw [ih _ _ _ _ (by omega), Nat.div_div_eq_div_mul, ← Nat.pow_succ', show (k - (s + 1)).succ = k + 1 - (s + 1) by omega]
theorem rfV_fig {n cd s : Nat} {ke ha : Nat → Int32} (h : s < n - 2) : (rfV n (n - 2) cd ke ha).1 s = nI (figV n cd s) := rfV_lo n (n - 2) cd ke ha s h
theorem figV_lt {n : Nat} (cd s : Nat) (h : 2 ≤ n) : figV n cd s < n := Nat.mod_lt _ (by omega)
def tlF (ha : Nat → Int32) : Nat → Nat → Nat
  | 0, p => p
  | k + 1, p => if ha p = 1 then p else tlF ha k (p + 1)
def tlV (n : Nat) (ha : Nat → Int32) : Nat := tlF ha (n - 1) 0
theorem tlF_le (ha : Nat → Int32) : ∀ (k p : Nat), p ≤ tlF ha k p ∧ tlF ha k p ≤ p + k := by
  intro k
  induction k with
  | zero => intro p; exact ⟨Nat.le_refl _, Nat.le_refl _⟩
  | succ k ih =>
    intro p
    unfold tlF
    split
    · omega
    · have := ih (p + 1)
      omega
theorem tlV_lt {n : Nat} (ha : Nat → Int32) (h : 2 ≤ n) : tlV n ha < n := by
  have := (tlF_le ha (n - 1) 0).2
  unfold tlV
  omega
def hqV (n : Nat) (K : Nat → Nat) (h0 : Nat → Int32) : Nat → Nat → Int32
  | 0 => h0
  | s + 1 => upd (upd (hqV n K h0 s) (tlV n (hqV n K h0 s)) 0) (K s) (upd (hqV n K h0 s) (tlV n (hqV n K h0 s)) 0 (K s) - 1)
def goW (n : Nat) (K : Nat → Nat) (h0 : Nat → Int32) (go : Nat → Int32) : Nat → Nat → Int32
  | 0 => go
  | s + 1 => upd (goW n K h0 go s) s (nI (tlV n (hqV n K h0 s)))
def h0V (n cd : Nat) (ke ha : Nat → Int32) : Nat → Int32 := (rfV n (n - 2) cd ke (fillA ha 1)).2
def Gn (n cd : Nat) (ke ha : Nat → Int32) (s : Nat) : Nat := tlV n (hqV n (figV n cd) (h0V n cd ke ha) s)
def rdG (n cd : Nat) (go ke ha : Nat → Int32) : Nat → Int32 := goW n (figV n cd) (h0V n cd ke ha) go (n - 2 + 1)
def rdH1 (n cd : Nat) (ke ha : Nat → Int32) : Nat → Int32 := upd (hqV n (figV n cd) (h0V n cd ke ha) (n - 2)) (tlV n (hqV n (figV n cd) (h0V n cd ke ha) (n - 2))) 0
def rdK (n cd : Nat) (ke ha : Nat → Int32) : Nat → Int32 := upd (rfV n (n - 2) cd ke (fillA ha 1)).1 (n - 2) (nI (tlV n (rdH1 n cd ke ha)))
def rdH (n cd : Nat) (ke ha : Nat → Int32) : Nat → Int32 := upd (rdH1 n cd ke ha) (tlV n (rdH1 n cd ke ha)) 0
def Kn (n cd : Nat) (ke ha : Nat → Int32) (s : Nat) : Nat := if s = n - 2 then tlV n (rdH1 n cd ke ha) else figV n cd s
theorem goW_at (n : Nat) (K : Nat → Nat) (h0 go : Nat → Int32) : ∀ (k s : Nat), s < k → goW n K h0 go k s = nI (tlV n (hqV n K h0 s)) := by
  intro k
  induction k with
  | zero => intro s h; omega
  | succ k ih =>
    intro s h
    rw [goW]
    by_cases e : s = k
    · subst e; exact pk_us
    · rw [pk_un e]; exact ih s (by omega)
theorem rdG_n {n cd s : Nat} {go ke ha : Nat → Int32} (h : s ≤ n - 2) : rdG n cd go ke ha s = nI (Gn n cd ke ha s) := goW_at _ _ _ _ _ _ (by omega)
theorem rdK_n {n cd s : Nat} {ke ha : Nat → Int32} (h : s ≤ n - 2) : rdK n cd ke ha s = nI (Kn n cd ke ha s) := by
  unfold rdK Kn
  by_cases e : s = n - 2
  · subst e; rw [pk_us, if_pos rfl]
  · rw [pk_un e, if_neg e]; exact rfV_fig (by omega)
theorem Gn_lt {n : Nat} (cd : Nat) (ke ha : Nat → Int32) (s : Nat) (h : 2 ≤ n) : Gn n cd ke ha s < n := tlV_lt _ h
theorem Kn_lt {n : Nat} (cd : Nat) (ke ha : Nat → Int32) (s : Nat) (h : 2 ≤ n) : Kn n cd ke ha s < n := by
  unfold Kn
  split
  · exact tlV_lt _ h
  · exact figV_lt _ _ h
def jnF (go ke : Nat → Int32) (x y : Int32) (b : Int32) (s : Nat) : Int32 := if b = 0 then (if go s = x then (if ke s = y then 1 else if go s = y then (if ke s = x then 1 else 0) else 0) else if go s = y then (if ke s = x then 1 else 0) else 0) else 1
def jnV (n : Nat) (go ke : Nat → Int32) (x y : Int32) : Int32 := lp (jnF go ke x y) 0 (n - 1) 0
def lwV (d wy : Nat → Nat → Int32) (f k t : Nat) : Nat → Nat → Int32 := u2 (u2 wy f t (d f k + wy k t)) t f (d f k + wy k t)
def lpd {α : Type} (f : α → Nat → α) : Nat → α → α
  | 0, a => a
  | k + 1, a => lpd f k (f a k)
def lyI (d : Nat → Nat → Int32) (G K : Nat → Nat) (s : Nat) (w : Nat → Nat → Int32) (q : Nat) : Nat → Nat → Int32 := lwV d w (G s) (K s) (G q)
def lyS (n : Nat) (d : Nat → Nat → Int32) (G K : Nat → Nat) (w : Nat → Nat → Int32) (s : Nat) : Nat → Nat → Int32 := lp (lyI d G K s) (s + 1) (n - 2 - s) (lwV d (u2 w (G s) (G s) 0) (G s) (K s) (K (n - 2)))
def lyV (n : Nat) (d : Nat → Nat → Int32) (G K : Nat → Nat) (w : Nat → Nat → Int32) : Nat → Nat → Int32 := lpd (lyS n d G K) (n - 1) (u2 w (K (n - 2)) (K (n - 2)) 0)
def fsI (d wy : Nat → Nat → Int32) (i : Nat) (q : Int32 × Int32) (j : Nat) : Int32 × Int32 := if wy i j * q.2 ≤ q.1 * d i j then q else (wy i j, d i j)
def fsO (n : Nat) (d wy : Nat → Nat → Int32) (q : Int32 × Int32) (i : Nat) : Int32 × Int32 := lp (fsI d wy i) (i + 1) (n - (i + 1)) q
def fsV (n : Nat) (d wy : Nat → Nat → Int32) : Int32 × Int32 := lp (fsO n d wy) 0 n (1, 1)
/-- the scratch rows gone, kept, hangs, ways -/
abbrev Sc : Type := (Nat → Int32) × (Nat → Int32) × (Nat → Int32) × (Nat → Nat → Int32)
def laS (n : Nat) (d : Nat → Nat → Int32) (z : Sc) (cd : Nat) : Sc := (rdG n cd z.1 z.2.1 z.2.2.1, rdK n cd z.2.1 z.2.2.1, rdH n cd z.2.1 z.2.2.1, lyV n d (Gn n cd z.2.1 z.2.2.1) (Kn n cd z.2.1 z.2.2.1) z.2.2.2)
def bsF (n : Nat) (d : Nat → Nat → Int32) (q : Int32 × Int32 × Int32 × Int32 × Int32 × Sc) (cd : Nat) : Int32 × Int32 × Int32 × Int32 × Int32 × Sc :=
  if nI cd = 0 then (nI cd, (fsV n d (laS n d q.2.2.2.2.2 cd).2.2.2).1, (fsV n d (laS n d q.2.2.2.2.2 cd).2.2.2).2, (fsV n d (laS n d q.2.2.2.2.2 cd).2.2.2).1, (fsV n d (laS n d q.2.2.2.2.2 cd).2.2.2).2, laS n d q.2.2.2.2.2 cd)
  else if q.2.1 * (fsV n d (laS n d q.2.2.2.2.2 cd).2.2.2).2 ≤ (fsV n d (laS n d q.2.2.2.2.2 cd).2.2.2).1 * q.2.2.1 then (q.1, q.2.1, q.2.2.1, (fsV n d (laS n d q.2.2.2.2.2 cd).2.2.2).1, (fsV n d (laS n d q.2.2.2.2.2 cd).2.2.2).2, laS n d q.2.2.2.2.2 cd)
  else (nI cd, (fsV n d (laS n d q.2.2.2.2.2 cd).2.2.2).1, (fsV n d (laS n d q.2.2.2.2.2 cd).2.2.2).2, (fsV n d (laS n d q.2.2.2.2.2 cd).2.2.2).1, (fsV n d (laS n d q.2.2.2.2.2 cd).2.2.2).2, laS n d q.2.2.2.2.2 cd)
def bsV (n : Nat) (d : Nat → Nat → Int32) (ab be : Int32) (z : Sc) : Int32 × Int32 × Int32 × Int32 × Int32 × Sc := lp (bsF n d) 0 (cmV n) (0, 0, 0, ab, be, z)
def bpF (n : Nat) (d : Nat → Nat → Int32) (q : Int32 × Int32 × Sc) (cd : Nat) : Int32 × Int32 × Sc :=
  if nI cd = 0 then (nI cd, suV n (laS n d q.2.2 cd).2.2.2, laS n d q.2.2 cd)
  else if q.2.1 ≤ suV n (laS n d q.2.2 cd).2.2.2 then (q.1, q.2.1, laS n d q.2.2 cd)
  else (nI cd, suV n (laS n d q.2.2 cd).2.2.2, laS n d q.2.2 cd)
def bpV (n : Nat) (d : Nat → Nat → Int32) (z : Sc) : Int32 × Int32 × Sc := lp (bpF n d) 0 (cmV n) (0, 0, z)
