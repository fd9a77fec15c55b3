/-! loops compared -/
theorem lp_rel {α β : Type} (R : α → β → Prop) {f : α → Nat → α} {g : β → Nat → β} : ∀ (c i : Nat) (a : α) (b : β), (∀ k a b, i ≤ k → k < i + c → R a b → R (f a k) (g b k)) → R a b → R (lp f i c a) (lp g i c b) := by
  intro c
  induction c with
  | zero => intro i a b _ h; exact h
  | succ c ih =>
    intro i a b hs h
    exact ih (i + 1) _ _ (fun k a b h1 h2 hr => hs k a b (by omega) (by omega) hr) (hs i a b (Nat.le_refl _) (by omega) h)
theorem lp_inv {α : Type} (P : α → Prop) {f : α → Nat → α} (c i : Nat) (a : α) (hs : ∀ k a, i ≤ k → k < i + c → P a → P (f a k)) (h : P a) : P (lp f i c a) :=
  lp_rel (fun x (_ : Unit) => P x) (g := fun u _ => u) c i a () (fun k a _ h1 h2 hr => hs k a h1 h2 hr) h
theorem lp_congr {α : Type} {f g : α → Nat → α} (c i : Nat) (a : α) (hs : ∀ k a, i ≤ k → k < i + c → f a k = g a k) : lp f i c a = lp g i c a :=
  lp_rel (fun x y => x = y) c i a a (fun k a b h1 h2 e => by subst e; exact hs k a h1 h2) rfl
theorem lp_app {α : Type} (f : α → Nat → α) : ∀ (c e i : Nat) (a : α), lp f i (c + e) a = lp f (i + c) e (lp f i c a) := by
  intro c
  induction c with
  | zero => intro e i a; rw [Nat.zero_add]; rfl
  | succ c ih =>
    intro e i a
    rw [show c + 1 + e = (c + e) + 1 by omega, lp_s, ih, lp_s, show i + 1 + c = i + (c + 1) by omega]
theorem lp_add (g : Nat → Int32) : ∀ (c i : Nat) (a : Int32), lp (fun a k => a + g k) i c a = a + lp (fun a k => a + g k) i c 0 := by
  intro c
  induction c with
  | zero => intro i a; rw [lp_0, lp_0, Int32.add_zero]
  | succ c ih =>
    intro i a
    rw [lp_s, lp_s, ih (i + 1) (a + g i), ih (i + 1) (0 + g i), Int32.zero_add, Int32.add_assoc]
theorem lp_fill {α : Type} (h : Nat → α) : ∀ (c i : Nat) (m : Nat → α) (x : Nat), lp (fun m k => va_up m k (h k)) i c m x = if i ≤ x ∧ x < i + c then h x else m x := by
  intro c
  induction c with
  | zero => intro i m x; rw [lp_0, if_neg (by omega)]
  | succ c ih =>
    intro i m x
    rw [lp_s, ih]
    by_cases e : x = i
    · subst e
      rw [if_neg (by omega), va_up_self, if_pos (by omega)]
    · rw [va_up_ne _ _ e]
      by_cases h2 : i + 1 ≤ x ∧ x < i + 1 + c
      · rw [if_pos h2, if_pos (by omega)]
      · rw [if_neg h2, if_neg (by omega)]
theorem upd_up (f : Nat → Int32) (k : Nat) (x : Int32) : upd f k x = va_up f k x := rfl
theorem i_le_antisymm {x y : Int32} (h1 : x ≤ y) (h2 : y ≤ x) : x = y := Int32.le_antisymm h1 h2
theorem i_not_lt {x y : Int32} (h : ¬ x < y) : y ≤ x := Int32.not_lt.mp h
theorem i_not_le {x y : Int32} (h : ¬ x ≤ y) : y < x := Int32.not_le.mp h
theorem mx_grt (x y : Int32) : mx x y = grt x y := by
  unfold mx grt
  by_cases h : x < y
  · rw [if_pos h, if_pos (Int32.le_of_lt h)]
  · rw [if_neg h]
    by_cases h2 : x ≤ y
    · rw [if_pos h2]; exact i_le_antisymm h2 (i_not_lt h)
    · rw [if_neg h2]
theorem mn_le (x y : Int32) : mn x y = if x ≤ y then x else y := by
  unfold mn
  by_cases h : y < x
  · rw [if_pos h, if_neg (Int32.not_le.mpr h)]
  · rw [if_neg h, if_pos (i_not_lt h)]
theorem le_mx_r (x y : Int32) : y ≤ mx x y := by
  unfold mx
  split
  · exact Int32.le_refl _
  · next h => exact i_not_lt h
theorem le_mx_l (x y : Int32) : x ≤ mx x y := by
  unfold mx
  split
  · next h => exact Int32.le_of_lt h
  · exact Int32.le_refl _
/-- the two tables beside one another: n points, D the numbers -/
def Rl (n : Nat) (d : Nat → Nat → Int32) (t : Nat → Int32) (D : Nat → Nat → Nat) : Prop :=
  (2 ≤ n ∧ n ≤ 6) ∧ (∀ i j, i < 6 → j < 6 → d i j = nI (D i j) ∧ t (6 * i + j) = nI (D i j)) ∧ (∀ i j, i < 6 → j < 6 → D i j = D j i) ∧ (∀ i, i < 6 → D i i = 0) ∧ (∀ i j, i < 6 → j < 6 → i ≠ j → 1 ≤ D i j ∧ D i j ≤ 1000)
theorem Rl.td {n : Nat} {d : Nat → Nat → Int32} {t : Nat → Int32} {D : Nat → Nat → Nat} (h : Rl n d t D) {i j : Nat} (hi : i < 6) (hj : j < 6) : t (6 * i + j) = d i j := (h.2.1 i j hi hj).2.trans (h.2.1 i j hi hj).1.symm
theorem Rl.le {n : Nat} {d : Nat → Nat → Int32} {t : Nat → Int32} {D : Nat → Nat → Nat} (h : Rl n d t D) {i j : Nat} (hi : i < 6) (hj : j < 6) : D i j ≤ 1000 := by
  by_cases e : i = j
  · subst e; rw [h.2.2.2.1 i hi]; omega
  · exact (h.2.2.2.2 i j hi hj e).2
theorem Rl.d0 {n : Nat} {d : Nat → Nat → Int32} {t : Nat → Int32} {D : Nat → Nat → Nat} (h : Rl n d t D) {i : Nat} (hi : i < 6) : d i i = 0 := by
  rw [(h.2.1 i i hi hi).1, h.2.2.2.1 i hi]; rfl
theorem Rl.sym {n : Nat} {d : Nat → Nat → Int32} {t : Nat → Int32} {D : Nat → Nat → Nat} (h : Rl n d t D) {i j : Nat} (hi : i < 6) (hj : j < 6) : d i j = d j i := by
  rw [(h.2.1 i j hi hj).1, (h.2.1 j i hj hi).1, h.2.2.1 i j hi hj]
/-! new points -/
def beD (i j : Nat) : Nat := if i = j then 0 else 1
theorem c6 {P : Nat → Prop} (h0 : P 0) (h1 : P 1) (h2 : P 2) (h3 : P 3) (h4 : P 4) (h5 : P 5) {i : Nat} (hi : i < 6) : P i := by
  have : i = 0 ∨ i = 1 ∨ i = 2 ∨ i = 3 ∨ i = 4 ∨ i = 5 := by omega
  rcases this with rfl | rfl | rfl | rfl | rfl | rfl <;> assumption
set_option maxRecDepth 20000 in
theorem begin_c (d : Nat → Nat → Int32) : ∀ i, i < 6 → ∀ j, j < 6 → beginV d i j = nI (beD i j) := fun i hi => by
  refine c6 (P := fun i => ∀ j, j < 6 → beginV d i j = nI (beD i j)) ?_ ?_ ?_ ?_ ?_ ?_ hi <;> intro j hj <;> refine c6 (P := fun j => beginV d _ j = nI (beD _ j)) ?_ ?_ ?_ ?_ ?_ ?_ hj <;> rfl
set_option maxRecDepth 20000 in
theorem begin_m (t : Nat → Int32) : ∀ i, i < 6 → ∀ j, j < 6 → mbV t (6 * i + j) = nI (beD i j) := fun i hi => by
  refine c6 (P := fun i => ∀ j, j < 6 → mbV t (6 * i + j) = nI (beD i j)) ?_ ?_ ?_ ?_ ?_ ?_ hi <;> intro j hj <;> refine c6 (P := fun j => mbV t (6 * _ + j) = nI (beD _ j)) ?_ ?_ ?_ ?_ ?_ ?_ hj <;> rfl
theorem Rl_begin {n : Nat} {d : Nat → Nat → Int32} {t : Nat → Int32} (h2 : 2 ≤ n) (h6 : n ≤ 6) : Rl n (beginV d) (mbV t) beD := by
  refine ⟨⟨h2, h6⟩, fun i j hi hj => ⟨begin_c d i hi j hj, begin_m t i hi j hj⟩, fun i j _ _ => ?_, fun i _ => ?_, fun i j _ _ e => ?_⟩
  · unfold beD
    by_cases e : i = j
    · subst e; rfl
    · rw [if_neg e, if_neg (fun q => e q.symm)]
  · unfold beD; rw [if_pos rfl]
  · unfold beD; rw [if_neg e]; omega
theorem u2_at (d : Nat → Nat → Int32) (i j : Nat) (x : Int32) (a b : Nat) : u2 d i j x a b = if a = i ∧ b = j then x else d a b := by
  unfold u2
  by_cases h1 : a = i
  · subst h1
    rw [va_up_self]
    by_cases h2 : b = j
    · subst h2; rw [pk_us, if_pos ⟨rfl, rfl⟩]
    · rw [pk_un h2, if_neg (fun q => h2 q.2)]
  · rw [va_up_ne _ _ h1, if_neg (fun q => h1 q.1)]
theorem putV_at (d : Nat → Nat → Int32) (i j : Nat) (x : Int32) (a b : Nat) : putV d i j x a b = if (a = i ∧ b = j) ∨ (a = j ∧ b = i) then x else d a b := by
  unfold putV
  rw [u2_at, u2_at]
  by_cases h1 : a = j ∧ b = i
  · rw [if_pos h1, if_pos (Or.inr h1)]
  · rw [if_neg h1]
    by_cases h2 : a = i ∧ b = j
    · rw [if_pos h2, if_pos (Or.inl h2)]
    · rw [if_neg h2, if_neg (fun q => q.elim h2 h1)]
theorem upd2_at (t : Nat → Int32) {i j a b : Nat} (hi : i < 6) (hj : j < 6) (ha : a < 6) (hb : b < 6) (x : Int32) : upd (upd t (6 * i + j) x) (6 * j + i) x (6 * a + b) = if (a = i ∧ b = j) ∨ (a = j ∧ b = i) then x else t (6 * a + b) := by
  unfold upd
  by_cases h1 : a = j ∧ b = i
  · rw [if_pos (by omega), if_pos (Or.inr h1)]
  · rw [if_neg (by omega)]
    by_cases h2 : a = i ∧ b = j
    · rw [if_pos (by omega), if_pos (Or.inl h2)]
    · rw [if_neg (by omega), if_neg (fun q => q.elim h2 h1)]
def puD (D : Nat → Nat → Nat) (i j v : Nat) (a b : Nat) : Nat := if (a = i ∧ b = j) ∨ (a = j ∧ b = i) then v else D a b
theorem Rl_put {n : Nat} {d : Nat → Nat → Int32} {t : Nat → Int32} {D : Nat → Nat → Nat} (h : Rl n d t D) {i j v : Nat} (hi : i < 6) (hj : j < 6) (e : i ≠ j) (h1 : 1 ≤ v) (h2 : v ≤ 1000) : Rl n (putV d i j (nI v)) (upd (upd t (6 * i + j) (nI v)) (6 * j + i) (nI v)) (puD D i j v) := by
  refine ⟨h.1, fun a b ha hb => ?_, fun a b ha hb => ?_, fun a ha => ?_, fun a b ha hb hab => ?_⟩
  · rw [putV_at, upd2_at t hi hj ha hb]
    unfold puD
    split
    · exact ⟨rfl, rfl⟩
    · exact h.2.1 a b ha hb
  · unfold puD
    by_cases q : (a = i ∧ b = j) ∨ (a = j ∧ b = i)
    · rw [if_pos q, if_pos (by omega)]
    · rw [if_neg q, if_neg (by omega)]; exact h.2.2.1 a b ha hb
  · unfold puD
    rw [if_neg (by omega)]; exact h.2.2.2.1 a ha
  · unfold puD
    split
    · exact ⟨h1, h2⟩
    · exact h.2.2.2.2 a b ha hb hab
/-! which points are known -/
theorem kn_M {n : Nat} (h2 : 2 ≤ n) (h6 : n ≤ 6) (x : Int32) : kn n x = knM n x := by
  unfold kn knM mnV
  by_cases h : x < 0
  · rw [if_pos h, if_pos h]
  · rw [if_neg h, if_neg h]
    obtain ⟨j, hj, rfl⟩ := nI_of h
    by_cases q : n ≤ j
    · rw [if_pos (nI_le q hj), if_pos (nI_lt (by omega) hj)]
    · rw [if_neg (nI_ge (by omega) (by omega)), if_neg (nI_nlt (by omega) (by omega))]
theorem kn2_M {α : Type} {n : Nat} (h2 : 2 ≤ n) (h6 : n ≤ 6) (x y : Int32) (a b : α) : (if kn2 n x y = 0 then a else b) = if knM n x = 0 then a else if knM n y = 0 then a else b := by
  unfold kn2
  rw [kn_M h2 h6, kn_M h2 h6]
  by_cases q : knM n x = 0
  · rw [if_pos q, if_pos q, if_pos rfl]
  · rw [if_neg q, if_neg q]
    by_cases q2 : knM n y = 0
    · rw [if_pos q2, if_pos q2, if_pos rfl]
    · rw [if_neg q2, if_neg q2, if_neg (by decide)]
theorem eq_points {n : Nat} {d : Nat → Nat → Int32} {t : Nat → Int32} {D : Nat → Nat → Nat} (h : Rl n d t D) (x : Int32) : ptR x = mpR x ∧ ptN n x = mpN n x ∧ ∃ D', Rl (ptN n x) (ptD d x) (mpT t x) D' := by
  unfold ptR mpR ptN mpN ptD mpT
  by_cases h1 : x < 2
  · have e : mnV x 2 6 = 0 := by unfold mnV; rw [if_pos h1]
    simp only [if_pos h1, if_pos e]
    exact ⟨trivial, trivial, D, h⟩
  · simp only [if_neg h1]
    by_cases h3 : x ≤ 6
    · have e : ¬ mnV x 2 6 = 0 := by
        unfold mnV; rw [if_neg h1, if_neg (Int32.not_lt.mpr h3)]; decide
      simp only [if_pos h3, if_neg e]
      exact ⟨trivial, trivial, beD, Rl_begin (mn26 e).2.1 (mn26 e).2.2⟩
    · have e : mnV x 2 6 = 0 := by unfold mnV; rw [if_neg h1, if_pos (i_not_le h3)]
      simp only [if_neg h3, if_pos e]
      exact ⟨trivial, trivial, D, h⟩
theorem eq_get {n : Nat} {d : Nat → Nat → Int32} {t : Nat → Int32} {D : Nat → Nat → Nat} (h : Rl n d t D) (x y : Int32) : gtR n d x y = mgR n t x y := by
  unfold gtR mgR
  rw [kn2_M h.1.1 h.1.2]
  by_cases q : knM n x = 0
  · simp only [if_pos q]
  · by_cases q2 : knM n y = 0
    · simp only [if_neg q, if_pos q2]
    · have a := (knM_tn h.1.2 h.1.1 q).2
      have b := (knM_tn h.1.2 h.1.1 q2).2
      have h6 := h.1.2
      simp only [if_neg q, if_neg q2]
      exact (h.td (by omega) (by omega)).symm
theorem mn1k {v : Int32} (h : ¬ mnV v 1 1000 = 0) : ∃ k, v = nI k ∧ 1 ≤ k ∧ k ≤ 1000 := by
  unfold mnV at h
  by_cases h1 : v < 1
  · rw [if_pos h1] at h; exact absurd rfl h
  · rw [if_neg h1] at h
    by_cases h2 : (1000 : Int32) < v
    · rw [if_pos h2] at h; exact absurd rfl h
    · have h0 : ¬ v < 0 := fun q => h1 (Int32.lt_trans q (by decide))
      obtain ⟨j, hj, rfl⟩ := nI_of h0
      refine ⟨j, rfl, ?_, ?_⟩
      · rcases Nat.lt_or_ge j 1 with q | q
        · exact absurd (show nI j < nI 1 from nI_lt q (by decide)) h1
        · exact q
      · rcases Nat.lt_or_ge 1000 j with q | q
        · exact absurd (show nI 1000 < nI j from nI_lt q hj) h2
        · exact q
theorem eq_set {n : Nat} {d : Nat → Nat → Int32} {t : Nat → Int32} {D : Nat → Nat → Nat} (h : Rl n d t D) (x y v : Int32) : stR n d x y v = msR n t x y v ∧ ∃ D', Rl n (stD n d x y v) (msT n t x y v) D' := by
  unfold stR msR stD msT
  rw [kn2_M h.1.1 h.1.2, kn2_M h.1.1 h.1.2]
  by_cases q : knM n x = 0
  · simp only [if_pos q]; exact ⟨trivial, D, h⟩
  · by_cases q2 : knM n y = 0
    · simp only [if_neg q, if_pos q2]; exact ⟨trivial, D, h⟩
    · simp only [if_neg q, if_neg q2]
      by_cases e : x = y
      · simp only [if_pos e]; exact ⟨trivial, D, h⟩
      · simp only [if_neg e]
        obtain ⟨ex, ax⟩ := knM_tn h.1.2 h.1.1 q
        obtain ⟨ey, ay⟩ := knM_tn h.1.2 h.1.1 q2
        have h6 := h.1.2
        by_cases w : mnV v 1 1000 = 0
        · simp only [if_pos w]
          have : (if v < 1 then (-102 : Int32) else if v ≤ 1000 then d (tn x) (tn y) else -102) = -102 ∧ (if v < 1 then d else if v ≤ 1000 then putV d (tn x) (tn y) v else d) = d := by
            unfold mnV at w
            by_cases h1 : v < 1
            · simp only [if_pos h1]; exact ⟨trivial, trivial⟩
            · rw [if_neg h1] at w
              by_cases h2 : (1000 : Int32) < v
              · simp only [if_neg h1, if_neg (Int32.not_le.mpr h2)]; exact ⟨trivial, trivial⟩
              · rw [if_neg h2] at w; exact absurd w (by decide)
          rw [this.1, this.2]
          exact ⟨rfl, D, h⟩
        · simp only [if_neg w]
          obtain ⟨k, rfl, k1, k2⟩ := mn1k w
          have h1 : ¬ nI k < 1 := fun q9 => by have := nI_nlt (a := k) (b := 1) k1 (by omega); exact this q9
          have h2 : nI k ≤ 1000 := nI_le (a := k) (b := 1000) k2 (by decide)
          simp only [if_neg h1, if_pos h2]
          refine ⟨(h.td (by omega) (by omega)).symm, _, Rl_put h (by omega) (by omega) (fun q9 => e (by rw [ex, ey, q9])) k1 k2⟩
