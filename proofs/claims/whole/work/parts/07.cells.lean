/-! the cells of the class's side (29) and of the reference's (7) -/
abbrev ty3 (cyI cO cyZ : ClassId) : List (ClassId × FieldType) := [(cyI, .int), (cO, .array .int), (cyZ, .boolean)]
def oR (cO : ClassId) (ad : Nat → Nat) (b : Nat) : va_E := .inl (cO, 6, .inr (.inr (.inr (.inr (fun i => if i < 6 then some (ad (b + i)) else none)))))
def iR (cyI : ClassId) (n : Nat) (f : Nat → Int32) : va_E := .inl (cyI, n, .inl f)
def cC (cyI cO : ClassId) (ad : Nat → Nat) (n : Nat) (d md : Nat → Nat → Int32) (go ke ha : Nat → Int32) (wy : Nat → Nat → Int32) (ab be sr : Int32) : Nat → va_E := fun k =>
  if k = 0 then .inr (4, [.ref (ad 1), .ref (ad 16), .ref (ad 27), .ref (ad 28), .int sr])
  else if k = 1 then .inr (3, [.ref (ad 2), .ref (ad 9), .int (nI n)])
  else if k = 2 then oR cO ad 3
  else if k < 9 then iR cyI 6 (d (k - 3))
  else if k = 9 then oR cO ad 10
  else if k < 16 then iR cyI 6 (md (k - 10))
  else if k = 16 then .inr (1, [.ref (ad 1), .ref (ad 17), .ref (ad 18), .ref (ad 19), .ref (ad 20), .int ab, .int be])
  else if k = 17 then iR cyI 6 go
  else if k = 18 then iR cyI 6 ke
  else if k = 19 then iR cyI 6 ha
  else if k = 20 then oR cO ad 21
  else if k < 27 then iR cyI 6 (wy (k - 21))
  else if k = 27 then .inr (2, [.ref (ad 1)])
  else .inr (0, [.ref (ad 1)])
def cM (cyI cyZ : ClassId) (ad : Nat → Nat) (n : Nat) (t md jd jn wm od : Nat → Int32) (bs : Int32) (ab be hh : Int64) : Nat → va_E := fun k =>
  if k = 0 then .inr (5, [.int (nI n), .ref (ad 1), .int bs, .ref (ad 2), .ref (ad 3), .ref (ad 4), .ref (ad 5), .long ab, .long be, .ref (ad 6), .long hh])
  else if k = 1 then iR cyI 36 t
  else if k = 2 then iR cyI 36 md
  else if k = 3 then iR cyZ 36 jd
  else if k = 4 then iR cyI 6 jn
  else if k = 5 then iR cyI 36 wm
  else if k = 6 then iR cyI 6 od
  else .inr (0, [])
section CELLS
variable {cyI cO cyZ : ClassId} {ad : Nat → Nat} {n : Nat} {d md wy : Nat → Nat → Int32} {go ke ha : Nat → Int32} {ab be sr : Int32}
theorem cC_0 : cC cyI cO ad n d md go ke ha wy ab be sr 0 = .inr (4, [.ref (ad 1), .ref (ad 16), .ref (ad 27), .ref (ad 28), .int sr]) := rfl
theorem cC_1 : cC cyI cO ad n d md go ke ha wy ab be sr 1 = .inr (3, [.ref (ad 2), .ref (ad 9), .int (nI n)]) := rfl
theorem cC_2 : cC cyI cO ad n d md go ke ha wy ab be sr 2 = .inl (cO, 6, .inr (.inr (.inr (.inr (fun i => if i < 6 then some (ad (3 + i)) else none))))) := rfl
theorem cC_9 : cC cyI cO ad n d md go ke ha wy ab be sr 9 = .inl (cO, 6, .inr (.inr (.inr (.inr (fun i => if i < 6 then some (ad (10 + i)) else none))))) := rfl
theorem cC_16 : cC cyI cO ad n d md go ke ha wy ab be sr 16 = .inr (1, [.ref (ad 1), .ref (ad 17), .ref (ad 18), .ref (ad 19), .ref (ad 20), .int ab, .int be]) := rfl
theorem cC_17 : cC cyI cO ad n d md go ke ha wy ab be sr 17 = .inl (cyI, 6, .inl go) := rfl
theorem cC_18 : cC cyI cO ad n d md go ke ha wy ab be sr 18 = .inl (cyI, 6, .inl ke) := rfl
theorem cC_19 : cC cyI cO ad n d md go ke ha wy ab be sr 19 = .inl (cyI, 6, .inl ha) := rfl
theorem cC_20 : cC cyI cO ad n d md go ke ha wy ab be sr 20 = .inl (cO, 6, .inr (.inr (.inr (.inr (fun i => if i < 6 then some (ad (21 + i)) else none))))) := rfl
theorem cC_27 : cC cyI cO ad n d md go ke ha wy ab be sr 27 = .inr (2, [.ref (ad 1)]) := rfl
theorem cC_28 : cC cyI cO ad n d md go ke ha wy ab be sr 28 = .inr (0, [.ref (ad 1)]) := rfl
theorem cC_d {i : Nat} (h : i < 6) : cC cyI cO ad n d md go ke ha wy ab be sr (3 + i) = .inl (cyI, 6, .inl (d i)) := by
  unfold cC
  rw [if_neg (by omega), if_neg (by omega), if_neg (by omega), if_pos (by omega), show 3 + i - 3 = i by omega]
  rfl
theorem cC_m {i : Nat} (h : i < 6) : cC cyI cO ad n d md go ke ha wy ab be sr (10 + i) = .inl (cyI, 6, .inl (md i)) := by
  unfold cC
  rw [if_neg (by omega), if_neg (by omega), if_neg (by omega), if_neg (by omega), if_neg (by omega), if_pos (by omega), show 10 + i - 10 = i by omega]
  rfl
theorem cC_w {i : Nat} (h : i < 6) : cC cyI cO ad n d md go ke ha wy ab be sr (21 + i) = .inl (cyI, 6, .inl (wy i)) := by
  unfold cC
  rw [if_neg (by omega), if_neg (by omega), if_neg (by omega), if_neg (by omega), if_neg (by omega), if_neg (by omega), if_neg (by omega), if_neg (by omega), if_neg (by omega), if_neg (by omega), if_neg (by omega), if_pos (by omega), show 21 + i - 21 = i by omega]
  rfl
theorem cC_outer {b i : Nat} (h : i < 6) : (fun i => if i < 6 then some (ad (b + i)) else none) i = some (ad (b + i)) := if_pos h
theorem cC_sd {i : Nat} (h : i < 6) {f : Nat → Int32} : va_up (cC cyI cO ad n d md go ke ha wy ab be sr) (3 + i) (.inl (cyI, 6, .inl f)) = cC cyI cO ad n (va_up d i f) md go ke ha wy ab be sr := by
  funext k
  by_cases hk : k = 3 + i
  · subst hk
    rw [cC_d h, va_up_self, va_up_self]
  · rw [va_up_ne _ _ hk]
    unfold cC
    by_cases h9 : k < 9
    · by_cases h3 : 2 < k
      · have : k - 3 ≠ i := by omega
        simp only [va_up_ne _ _ this]
      · simp only [show ¬ (2 < k) from h3, h9]
        have : k = 0 ∨ k = 1 ∨ k = 2 := by omega
        rcases this with rfl | rfl | rfl <;> rfl
    · simp only [h9, if_false]
theorem cC_sm {i : Nat} (h : i < 6) {f : Nat → Int32} : va_up (cC cyI cO ad n d md go ke ha wy ab be sr) (10 + i) (.inl (cyI, 6, .inl f)) = cC cyI cO ad n d (va_up md i f) go ke ha wy ab be sr := by
  funext k
  by_cases hk : k = 10 + i
  · subst hk
    rw [cC_m h, va_up_self, va_up_self]
  · rw [va_up_ne _ _ hk]
    unfold cC
    by_cases h9 : k < 16
    · by_cases h3 : 9 < k
      · have : k - 10 ≠ i := by omega
        simp only [va_up_ne _ _ this]
      · have e : ∀ (P Q : va_E), (if k = 9 then P else if k < 16 then Q else P) = (if k = 9 then P else if k < 16 then Q else P) := fun _ _ => rfl
        by_cases h99 : k = 9
        · subst h99; rfl
        · have h8 : k < 9 := by omega
          simp only [h8, if_true]
    · simp only [h9, if_false]
theorem cC_sw {i : Nat} (h : i < 6) {f : Nat → Int32} : va_up (cC cyI cO ad n d md go ke ha wy ab be sr) (21 + i) (.inl (cyI, 6, .inl f)) = cC cyI cO ad n d md go ke ha (va_up wy i f) ab be sr := by
  funext k
  by_cases hk : k = 21 + i
  · subst hk
    rw [cC_w h, va_up_self, va_up_self]
  · rw [va_up_ne _ _ hk]
    unfold cC
    by_cases h9 : k < 27
    · by_cases h3 : 20 < k
      · have : k - 21 ≠ i := by omega
        simp only [va_up_ne _ _ this]
      · by_cases h99 : k = 20
        · subst h99; rfl
        · by_cases h19 : k = 19
          · subst h19; rfl
          · by_cases h18 : k = 18
            · subst h18; rfl
            · by_cases h17 : k = 17
              · subst h17; rfl
              · by_cases h16 : k = 16
                · subst h16; rfl
                · have h8 : k < 16 := by omega
                  simp only [h8, if_true]
    · simp only [h9, if_false]
theorem cC_s1 {k : Nat} (hk : k = 17 ∨ k = 18 ∨ k = 19) (f : Nat → Int32) : va_up (cC cyI cO ad n d md go ke ha wy ab be sr) k (.inl (cyI, 6, .inl f)) = cC cyI cO ad n d md (if k = 17 then f else go) (if k = 18 then f else ke) (if k = 19 then f else ha) wy ab be sr := by
  funext j
  by_cases hj : j = k
  · subst hj
    rw [va_up_self]
    rcases hk with rfl | rfl | rfl <;> rfl
  · rw [va_up_ne _ _ hj]
    unfold cC
    rcases hk with rfl | rfl | rfl <;> simp [hj]
theorem cC_s17 {f : Nat → Int32} : va_up (cC cyI cO ad n d md go ke ha wy ab be sr) 17 (.inl (cyI, 6, .inl f)) = cC cyI cO ad n d md f ke ha wy ab be sr := cC_s1 (Or.inl rfl) f
theorem cC_s18 {f : Nat → Int32} : va_up (cC cyI cO ad n d md go ke ha wy ab be sr) 18 (.inl (cyI, 6, .inl f)) = cC cyI cO ad n d md go f ha wy ab be sr := cC_s1 (Or.inr (Or.inl rfl)) f
theorem cC_s19 {f : Nat → Int32} : va_up (cC cyI cO ad n d md go ke ha wy ab be sr) 19 (.inl (cyI, 6, .inl f)) = cC cyI cO ad n d md go ke f wy ab be sr := cC_s1 (Or.inr (Or.inr rfl)) f
theorem cC_sn {n' : Nat} : va_up (cC cyI cO ad n d md go ke ha wy ab be sr) 1 (.inr (3, [.ref (ad 2), .ref (ad 9), .int (nI n')])) = cC cyI cO ad n' d md go ke ha wy ab be sr := by
  funext j
  by_cases hj : j = 1
  · subst hj; rfl
  · rw [va_up_ne _ _ hj]; unfold cC; simp [hj]
theorem cC_ssr {x : Int32} : va_up (cC cyI cO ad n d md go ke ha wy ab be sr) 0 (.inr (4, [.ref (ad 1), .ref (ad 16), .ref (ad 27), .ref (ad 28), .int x])) = cC cyI cO ad n d md go ke ha wy ab be x := by
  funext j
  by_cases hj : j = 0
  · subst hj; rfl
  · rw [va_up_ne _ _ hj]; unfold cC; simp [hj]
theorem cC_sab {x y : Int32} : va_up (cC cyI cO ad n d md go ke ha wy ab be sr) 16 (.inr (1, [.ref (ad 1), .ref (ad 17), .ref (ad 18), .ref (ad 19), .ref (ad 20), .int x, .int y])) = cC cyI cO ad n d md go ke ha wy x y sr := by
  funext j
  by_cases hj : j = 16
  · subst hj; rfl
  · rw [va_up_ne _ _ hj]; unfold cC; simp [hj]
end CELLS
section CELLM
variable {cyI cO cyZ : ClassId} {ad : Nat → Nat} {n : Nat} {t md jd jn wm od : Nat → Int32} {bs : Int32} {ab be hh : Int64}
theorem cM_0 : cM cyI cyZ ad n t md jd jn wm od bs ab be hh 0 = .inr (5, [.int (nI n), .ref (ad 1), .int bs, .ref (ad 2), .ref (ad 3), .ref (ad 4), .ref (ad 5), .long ab, .long be, .ref (ad 6), .long hh]) := rfl
theorem cM_1 : cM cyI cyZ ad n t md jd jn wm od bs ab be hh 1 = .inl (cyI, 36, .inl t) := rfl
theorem cM_2 : cM cyI cyZ ad n t md jd jn wm od bs ab be hh 2 = .inl (cyI, 36, .inl md) := rfl
theorem cM_3 : cM cyI cyZ ad n t md jd jn wm od bs ab be hh 3 = .inl (cyZ, 36, .inl jd) := rfl
theorem cM_4 : cM cyI cyZ ad n t md jd jn wm od bs ab be hh 4 = .inl (cyI, 6, .inl jn) := rfl
theorem cM_5 : cM cyI cyZ ad n t md jd jn wm od bs ab be hh 5 = .inl (cyI, 36, .inl wm) := rfl
theorem cM_6 : cM cyI cyZ ad n t md jd jn wm od bs ab be hh 6 = .inl (cyI, 6, .inl od) := rfl
theorem cM_s0 {n' : Nat} {bs' : Int32} {ab' be' hh' : Int64} : va_up (cM cyI cyZ ad n t md jd jn wm od bs ab be hh) 0 (.inr (5, [.int (nI n'), .ref (ad 1), .int bs', .ref (ad 2), .ref (ad 3), .ref (ad 4), .ref (ad 5), .long ab', .long be', .ref (ad 6), .long hh'])) = cM cyI cyZ ad n' t md jd jn wm od bs' ab' be' hh' := by
  funext j
  by_cases hj : j = 0
  · subst hj; rfl
  · rw [va_up_ne _ _ hj]; unfold cM; simp [hj]
theorem cM_s1 {f : Nat → Int32} : va_up (cM cyI cyZ ad n t md jd jn wm od bs ab be hh) 1 (.inl (cyI, 36, .inl f)) = cM cyI cyZ ad n f md jd jn wm od bs ab be hh := by
  funext j
  by_cases hj : j = 1
  · subst hj; rfl
  · rw [va_up_ne _ _ hj]; unfold cM; simp [hj]
theorem cM_s2 {f : Nat → Int32} : va_up (cM cyI cyZ ad n t md jd jn wm od bs ab be hh) 2 (.inl (cyI, 36, .inl f)) = cM cyI cyZ ad n t f jd jn wm od bs ab be hh := by
  funext j
  by_cases hj : j = 2
  · subst hj; rfl
  · rw [va_up_ne _ _ hj]; unfold cM; simp [hj]
theorem cM_s3 {f : Nat → Int32} : va_up (cM cyI cyZ ad n t md jd jn wm od bs ab be hh) 3 (.inl (cyZ, 36, .inl f)) = cM cyI cyZ ad n t md f jn wm od bs ab be hh := by
  funext j
  by_cases hj : j = 3
  · subst hj; rfl
  · rw [va_up_ne _ _ hj]; unfold cM; simp [hj]
theorem cM_s4 {f : Nat → Int32} : va_up (cM cyI cyZ ad n t md jd jn wm od bs ab be hh) 4 (.inl (cyI, 6, .inl f)) = cM cyI cyZ ad n t md jd f wm od bs ab be hh := by
  funext j
  by_cases hj : j = 4
  · subst hj; rfl
  · rw [va_up_ne _ _ hj]; unfold cM; simp [hj]
theorem cM_s5 {f : Nat → Int32} : va_up (cM cyI cyZ ad n t md jd jn wm od bs ab be hh) 5 (.inl (cyI, 36, .inl f)) = cM cyI cyZ ad n t md jd jn f od bs ab be hh := by
  funext j
  by_cases hj : j = 5
  · subst hj; rfl
  · rw [va_up_ne _ _ hj]; unfold cM; simp [hj]
theorem cM_s6 {f : Nat → Int32} : va_up (cM cyI cyZ ad n t md jd jn wm od bs ab be hh) 6 (.inl (cyI, 6, .inl f)) = cM cyI cyZ ad n t md jd jn wm f bs ab be hh := by
  funext j
  by_cases hj : j = 6
  · subst hj; rfl
  · rw [va_up_ne _ _ hj]; unfold cM; simp [hj]
end CELLM
/-! counting loops, as numbers -/
def lp {α : Type} (f : α → Nat → α) : Nat → Nat → α → α
  | _, 0, a => a
  | i, k + 1, a => lp f (i + 1) k (f a i)
theorem lp_0 {α : Type} (f : α → Nat → α) (i : Nat) (a : α) : lp f i 0 a = a := rfl
theorem lp_s {α : Type} (f : α → Nat → α) (i k : Nat) (a : α) : lp f i (k + 1) a = lp f (i + 1) k (f a i) := rfl
def u2 (d : Nat → Nat → Int32) (i j : Nat) (x : Int32) : Nat → Nat → Int32 := va_up d i (upd (d i) j x)
def mx (x y : Int32) : Int32 := if x < y then y else x
def mn (x y : Int32) : Int32 := if y < x then y else x
theorem ix6 (i j : Nat) : (6 : Int32) * nI i + nI j = nI (6 * i + j) := by
  rw [show (6 : Int32) = nI 6 from rfl, pk_mul, nI_add]
