/-! stretch -/
theorem gcd_step {g q : Nat} : Nat.gcd g q = Nat.gcd q (g % q) := by
  rw [Nat.gcd_comm g q, Nat.gcd_rec q g, Nat.gcd_comm]
theorem lg0 {q : Nat} (h : q < 2 ^ 31) : lg_cmp (lN q) 0 = 0 ↔ q = 0 := by
  have e0 : (0 : Int64) = lN 0 := rfl
  unfold lg_cmp
  rw [e0]
  by_cases e : q = 0
  · subst e; decide
  · rw [if_pos ((lN_lt (by omega) h).mpr (by omega))]
    exact ⟨fun z => absurd z n10, fun z => absurd z e⟩
theorem lg_le {a b : Nat} (ha : a < 2 ^ 31) (hb : b < 2 ^ 31) : (lg_cmp (lN a) (lN b) ≤ 0 ↔ a ≤ b) ∧ (0 ≤ lg_cmp (lN a) (lN b) ↔ b ≤ a) := by
  unfold lg_cmp
  by_cases e : b < a
  · rw [if_pos ((lN_lt hb ha).mpr e)]
    exact ⟨⟨fun z => absurd z (by decide), fun z => by omega⟩, ⟨fun _ => by omega, fun _ => by decide⟩⟩
  · rw [if_neg (fun z => e ((lN_lt hb ha).mp z))]
    by_cases e2 : a = b
    · subst e2; rw [if_pos rfl]
      exact ⟨⟨fun _ => Nat.le_refl _, fun _ => by decide⟩, ⟨fun _ => Nat.le_refl _, fun _ => by decide⟩⟩
    · rw [if_neg (fun z => e2 ((lN_eq ha hb).mp z))]
      exact ⟨⟨fun _ => by omega, fun _ => by decide⟩, ⟨fun z => absurd z (by decide), fun z => by omega⟩⟩
theorem gd_all : ∀ (k f g q : Nat), q < 2 ^ k → 2 * k + 1 ≤ f → g < 2 ^ 31 → q < 2 ^ 31 → gdF f (nI g) (nI q) = nI (Nat.gcd g q) ∧ gdL f (lN g) (lN q) = lN (Nat.gcd g q) ∧ gdT f (lN g) (lN q) := by
  have z0 : ∀ (f g : Nat), gdF (f + 1) (nI g) (nI 0) = nI g ∧ gdL (f + 1) (lN g) (lN 0) = lN g ∧ gdT (f + 1) (lN g) (lN 0) := fun f g => by
    refine ⟨?_, ?_, ?_⟩
    · rw [gdF]; exact if_pos (by decide)
    · rw [gdL]; exact if_pos (by decide)
    · rw [gdT]; exact Or.inl (by decide)
  have s1 : ∀ (f g q : Nat), 0 < q → g < 2 ^ 31 → q < 2 ^ 31 → gdF (f + 1) (nI g) (nI q) = gdF f (nI q) (nI (g % q)) ∧ gdL (f + 1) (lN g) (lN q) = gdL f (lN q) (lN (g % q)) ∧ (gdT f (lN q) (lN (g % q)) → gdT (f + 1) (lN g) (lN q)) := fun f g q h0 hg hq => by
    refine ⟨?_, ?_, fun z => ?_⟩
    · rw [gdF, if_neg (nI_nle h0 hq), pk_rem hg h0 hq]
    · rw [gdL, if_neg (fun z => by have := (lg0 hq).mp z; omega), pk_lRem (by omega) h0 (by omega)]
    · rw [gdT, pk_lRem (by omega) h0 (by omega)]; exact Or.inr z
  intro k
  induction k with
  | zero =>
    intro f g q h1 h2 hg hq
    obtain ⟨f, rfl⟩ : ∃ m, f = m + 1 := ⟨f - 1, by omega⟩
    obtain rfl : q = 0 := by omega
    rw [Nat.gcd_zero_right]
    exact z0 f g
  | succ k ih =>
    intro f g q h1 h2 hg hq
    obtain ⟨f, rfl⟩ : ∃ m, f = m + 1 + 1 := ⟨f - 2, by omega⟩
    by_cases q0 : q = 0
    · subst q0; rw [Nat.gcd_zero_right]; exact z0 (f + 1) g
    · have hr : g % q < q := Nat.mod_lt _ (by omega)
      obtain ⟨a1, a2, a3⟩ := s1 (f + 1) g q (by omega) hg hq
      rw [a1, a2, gcd_step]
      generalize g % q = r at hr a1 a2 a3
      by_cases r0 : r = 0
      · subst r0
        rw [Nat.gcd_zero_right]
        exact ⟨(z0 f q).1, (z0 f q).2.1, a3 (z0 f q).2.2⟩
      · obtain ⟨b1, b2, b3⟩ := s1 f q r (by omega) hq (by omega)
        have hs : q % r < r := Nat.mod_lt _ (by omega)
        have hs2 : q % r + r ≤ q := by
          have e := Nat.div_add_mod q r
          have : 1 ≤ q / r := Nat.div_pos (by omega) (by omega)
          have : r * 1 ≤ r * (q / r) := Nat.mul_le_mul_left r this
          omega
        rw [b1, b2, gcd_step]
        obtain ⟨c1, c2, c3⟩ := ih f r (q % r) (by rw [Nat.pow_succ] at h1; omega) (by omega) (by omega) (by omega)
        exact ⟨c1, c2, a3 (b3 c3)⟩
theorem lp_rix {α β : Type} (R : Nat → α → β → Prop) {f : α → Nat → α} {g : β → Nat → β} : ∀ (c i : Nat) (a : α) (b : β), (∀ k a b, i ≤ k → k < i + c → R k a b → R (k + 1) (f a k) (g b k)) → R i a b → R (i + c) (lp f i c a) (lp g i c b) := by
  intro c
  induction c with
  | zero => intro i a b _ h; exact h
  | succ c ih =>
    intro i a b hs h
    have := ih (i + 1) _ _ (fun k a b h1 h2 hr => hs k a b (by omega) (by omega) hr) (hs i a b (Nat.le_refl _) (by omega) h)
    rw [show i + 1 + c = i + (c + 1) by omega] at this
    exact this
section STR
variable {n : Nat} {d : Nat → Nat → Int32} {t : Nat → Int32} {D : Nat → Nat → Nat}
def fI (D w : Nat → Nat → Nat) (i : Nat) (q : Nat × Nat) (j : Nat) : Nat × Nat := if w i j * q.2 ≤ q.1 * D i j then q else (w i j, D i j)
def fO (n : Nat) (D w : Nat → Nat → Nat) (q : Nat × Nat) (i : Nat) : Nat × Nat := lp (fI D w i) (i + 1) (n - (i + 1)) q
def fV (n : Nat) (D w : Nat → Nat → Nat) (q : Nat × Nat) : Nat × Nat := lp (fO n D w) 0 n q
abbrev bdQ (q : Nat × Nat) : Prop := q.1 ≤ 5000 ∧ 1 ≤ q.2 ∧ q.2 ≤ 1000
theorem m25 {a b : Nat} (ha : a ≤ 5000) (hb : b ≤ 5000) : a * b < 2 ^ 31 := by
  have := Nat.mul_le_mul ha hb
  omega
theorem fs_N (h : Rl n d t D) {W : Nat → Nat → Int32} {M : Nat → Int32} {w : Nat → Nat → Nat} (hw : WE n W M w) (hb : ∀ i j, i < n → j < n → w i j ≤ 5000) : (fsV n d W = (nI (fV n D w (1, 1)).1, nI (fV n D w (1, 1)).2) ∧ bdQ (fV n D w (1, 1))) ∧ msV n t M = (lN (fV n D w (0, 1)).1, lN (fV n D w (0, 1)).2) ∧ bdQ (fV n D w (0, 1)) := by
  have h6 := h.1.2
  have hD : ∀ i j, i < n → j < n → i < j → d i j = nI (D i j) ∧ t (6 * i + j) = nI (D i j) ∧ 1 ≤ D i j ∧ D i j ≤ 1000 := fun i j hi hj hij => ⟨(h.2.1 i j (by omega) (by omega)).1, (h.2.1 i j (by omega) (by omega)).2, h.2.2.2.2 i j (by omega) (by omega) (by omega)⟩
  refine ⟨?_, ?_⟩
  · unfold fsV fV
    refine lp_rel (fun (a : Int32 × Int32) (q : Nat × Nat) => a = (nI q.1, nI q.2) ∧ bdQ q) n 0 _ _ (fun i a q _ hi hr => ?_) ⟨rfl, by decide⟩
    unfold fsO fO
    refine lp_rel (fun (a : Int32 × Int32) (q : Nat × Nat) => a = (nI q.1, nI q.2) ∧ bdQ q) _ _ a q (fun j a q hj0 hj hr => ?_) hr
    obtain ⟨rfl, b1, b2, b3⟩ := hr
    obtain ⟨e1, _, d1, d2⟩ := hD i j (by omega) (by omega) (by omega)
    have w1 := hb i j (by omega) (by omega)
    unfold fsI fI
    rw [(hw i j (by omega) (by omega)).1, e1]
    simp only [pk_mul]
    by_cases e : w i j * q.2 ≤ q.1 * D i j
    · rw [if_pos e, if_pos ((nI_leI (m25 w1 (by omega)) (m25 b1 (by omega))).mpr e)]; exact ⟨rfl, b1, b2, b3⟩
    · rw [if_neg e, if_neg (fun z => e ((nI_leI (m25 w1 (by omega)) (m25 b1 (by omega))).mp z))]; exact ⟨rfl, w1, d1, d2⟩
  · unfold msV fV
    refine lp_rel (fun (a : Int64 × Int64) (q : Nat × Nat) => a = (lN q.1, lN q.2) ∧ bdQ q) n 0 _ _ (fun i a q _ hi hr => ?_) ⟨rfl, by decide⟩
    unfold msO fO
    refine lp_rel (fun (a : Int64 × Int64) (q : Nat × Nat) => a = (lN q.1, lN q.2) ∧ bdQ q) _ _ a q (fun j a q hj0 hj hr => ?_) hr
    obtain ⟨rfl, b1, b2, b3⟩ := hr
    obtain ⟨_, e1, d1, d2⟩ := hD i j (by omega) (by omega) (by omega)
    have w1 := hb i j (by omega) (by omega)
    unfold msI fI
    rw [(hw i j (by omega) (by omega)).2, e1, nI_l (by omega), nI_l (by omega)]
    simp only [lN_mul]
    by_cases e : w i j * q.2 ≤ q.1 * D i j
    · rw [if_pos e, if_pos ((lg_le (m25 w1 (by omega)) (m25 b1 (by omega))).1.mpr e)]; exact ⟨rfl, b1, b2, b3⟩
    · rw [if_neg e, if_neg (fun z => e ((lg_le (m25 w1 (by omega)) (m25 b1 (by omega))).1.mp z))]; exact ⟨rfl, w1, d1, d2⟩
theorem mul_lt_of {a b x y : Nat} (hb : 0 < b) (h : x * b < a * y) (h2 : y ≤ b) (h3 : 0 < a) : x < a := by
  rcases Nat.lt_or_ge x a with q | q
  · exact q
  · have := Nat.mul_le_mul q h2; omega
/-- the two runs of the greatest ratio -/
theorem f_two (hD : ∀ i j, i < n → j < n → i < j → 1 ≤ D i j) {w : Nat → Nat → Nat} : (fun (q p : Nat × Nat) => (q = p ∧ p.2 < p.1 ∧ 1 ≤ p.2) ∨ (q = (1, 1) ∧ p.1 ≤ p.2 ∧ 1 ≤ p.2)) (fV n D w (1, 1)) (fV n D w (0, 1)) := by
  unfold fV
  refine lp_rel (fun (q p : Nat × Nat) => (q = p ∧ p.2 < p.1 ∧ 1 ≤ p.2) ∨ (q = (1, 1) ∧ p.1 ≤ p.2 ∧ 1 ≤ p.2)) n 0 _ _ (fun i q p _ hi hr => ?_) (Or.inr ⟨rfl, by decide, by decide⟩)
  unfold fO
  refine lp_rel (fun (q p : Nat × Nat) => (q = p ∧ p.2 < p.1 ∧ 1 ≤ p.2) ∨ (q = (1, 1) ∧ p.1 ≤ p.2 ∧ 1 ≤ p.2)) _ _ q p (fun j q p hj0 hj hr => ?_) hr
  have d1 := hD i j (by omega) (by omega) (by omega)
  unfold fI
  generalize D i j = y at d1
  generalize w i j = x
  rcases hr with ⟨rfl, h1, h3⟩ | ⟨rfl, h1, h3⟩
  · by_cases e : x * q.2 ≤ q.1 * y
    · rw [if_pos e]; exact Or.inl ⟨rfl, h1, h3⟩
    · rw [if_neg e]
      refine Or.inl ⟨rfl, ?_, d1⟩
      show y < x
      rcases Nat.lt_or_ge y x with z | z
      · exact z
      · exfalso; apply e
        rw [Nat.mul_comm q.1 y]
        exact Nat.mul_le_mul z (by omega)
  · by_cases e : x * 1 ≤ 1 * y
    · rw [if_pos e]
      refine Or.inr ⟨rfl, ?_⟩
      split
      · exact ⟨h1, h3⟩
      · exact ⟨by show x ≤ y; omega, d1⟩
    · rw [if_neg e, if_neg (fun z => ?_)]
      · exact Or.inl ⟨rfl, by show y < x; omega, d1⟩
      · have a1 : (y + 1) * p.2 ≤ x * p.2 := Nat.mul_le_mul_right _ (by omega)
        have a2 : p.1 * y ≤ p.2 * y := Nat.mul_le_mul_right _ h1
        rw [Nat.add_mul, Nat.one_mul, Nat.mul_comm y p.2] at a1
        omega
theorem f_ge (hD : ∀ i j, i < n → j < n → i < j → 1 ≤ D i j) {w : Nat → Nat → Nat} {i0 j0 : Nat} (hij : i0 < j0) (hj : j0 < n) (he : w i0 j0 = D i0 j0) (q : Nat × Nat) (hq : 1 ≤ q.2) : (fV n D w q).2 ≤ (fV n D w q).1 := by
  have keep : ∀ i, i < n → ∀ (q : Nat × Nat) (k c : Nat), i + 1 ≤ k → k + c ≤ n → 1 ≤ q.2 → 1 ≤ (lp (fI D w i) k c q).2 ∧ (q.2 ≤ q.1 → (lp (fI D w i) k c q).2 ≤ (lp (fI D w i) k c q).1) := fun i hi q k c hk hc h1 => by
    refine lp_inv (fun (p : Nat × Nat) => 1 ≤ p.2 ∧ (q.2 ≤ q.1 → p.2 ≤ p.1)) c k q (fun j p hj0 hj hp => ?_) ⟨h1, id⟩
    obtain ⟨p1, p2⟩ := hp
    have d1 := hD i j hi (by omega) (by omega)
    unfold fI
    generalize D i j = y at d1
    generalize w i j = x
    by_cases e : x * p.2 ≤ p.1 * y
    · rw [if_pos e]; exact ⟨p1, p2⟩
    · rw [if_neg e]
      refine ⟨d1, fun z => ?_⟩
      show y ≤ x
      have z1 := p2 z
      rcases Nat.lt_or_ge x y with u | u
      · exfalso; apply e
        rw [Nat.mul_comm p.1 y]
        exact Nat.mul_le_mul (by omega) z1
      · exact u
  have row : (lp (fI D w i0) (i0 + 1) (n - (i0 + 1)) (lp (fO n D w) 0 i0 q)).2 ≤ (lp (fI D w i0) (i0 + 1) (n - (i0 + 1)) (lp (fO n D w) 0 i0 q)).1 := by
    have b1 : 1 ≤ (lp (fO n D w) 0 i0 q).2 := lp_inv (fun (p : Nat × Nat) => 1 ≤ p.2) i0 0 q (fun i p _ hi hp => (keep i (by omega) p (i + 1) (n - (i + 1)) (Nat.le_refl _) (by omega) hp).1) hq
    generalize lp (fO n D w) 0 i0 q = p at b1
    rw [show n - (i0 + 1) = (j0 - (i0 + 1)) + ((n - (j0 + 1)) + 1) by omega, lp_app, show i0 + 1 + (j0 - (i0 + 1)) = j0 by omega, lp_s]
    have b2 := (keep i0 (by omega) p (i0 + 1) (j0 - (i0 + 1)) (Nat.le_refl _) (by omega) b1).1
    generalize lp (fI D w i0) (i0 + 1) (j0 - (i0 + 1)) p = p at b2
    have d1 := hD i0 j0 (by omega) hj hij
    have e0 : 1 ≤ (fI D w i0 p j0).2 ∧ (fI D w i0 p j0).2 ≤ (fI D w i0 p j0).1 := by
      unfold fI
      rw [he]
      generalize D i0 j0 = y at d1
      by_cases e : y * p.2 ≤ p.1 * y
      · rw [if_pos e]
        rw [Nat.mul_comm] at e
        exact ⟨b2, Nat.le_of_mul_le_mul_right e (by omega)⟩
      · rw [if_neg e]; exact ⟨d1, Nat.le_refl _⟩
    exact (keep i0 (by omega) _ (j0 + 1) (n - (j0 + 1)) (by omega) (by omega) e0.1).2 e0.2
  unfold fV
  rw [show n = i0 + ((n - (i0 + 1)) + 1) by omega, lp_app, Nat.zero_add, lp_s, ← show n = i0 + ((n - (i0 + 1)) + 1) by omega]
  have b1 : 1 ≤ (lp (fO n D w) 0 i0 q).2 := lp_inv (fun (p : Nat × Nat) => 1 ≤ p.2) i0 0 q (fun i p _ hi hp => (keep i (by omega) p (i + 1) (n - (i + 1)) (Nat.le_refl _) (by omega) hp).1) hq
  have b2 := (keep i0 (by omega) (lp (fO n D w) 0 i0 q) (i0 + 1) (n - (i0 + 1)) (Nat.le_refl _) (by omega) b1).1
  refine (lp_inv (fun (p : Nat × Nat) => 1 ≤ p.2 ∧ p.2 ≤ p.1) (n - (i0 + 1)) (i0 + 1) _ (fun i p _ hi hp => ?_) ⟨b2, row⟩).2
  have := keep i (by omega) p (i + 1) (n - (i + 1)) (Nat.le_refl _) (by omega) hp.1
  exact ⟨this.1, this.2 hp.2⟩
/-- one ratio found on both sides -/
theorem fs_ms (h : Rl n d t D) {W : Nat → Nat → Int32} {M : Nat → Int32} {w : Nat → Nat → Nat} (hw : WE n W M w) (hb : ∀ i j, i < n → j < n → w i j ≤ 5000) (he : ∃ i j, i < j ∧ j < n ∧ w i j = D i j) : ∃ a b A B, (fsV n d W = (nI a, nI b) ∧ msV n t M = (lN A, lN B)) ∧ ((1 ≤ a ∧ a ≤ 5000) ∧ 1 ≤ b ∧ b ≤ 1000) ∧ ((1 ≤ A ∧ A ≤ 5000) ∧ 1 ≤ B ∧ B ≤ 1000) ∧ ((a = A ∧ b = B) ∨ (a = 1 ∧ b = 1 ∧ A = B)) := by
  obtain ⟨i0, j0, h1, h3, h4⟩ := he
  have h6 := h.1.2
  have hD : ∀ i j, i < n → j < n → i < j → 1 ≤ D i j := fun i j hi hj hij => (h.2.2.2.2 i j (by omega) (by omega) (by omega)).1
  obtain ⟨⟨e1, x1, x2, x3⟩, e2, y1, y2, y3⟩ := fs_N h hw hb
  have ge := f_ge hD h1 h3 h4 (0, 1) (Nat.le_refl _)
  have two := f_two (n := n) hD (w := w)
  refine ⟨_, _, _, _, ⟨e1, e2⟩, ?_⟩
  simp only at two
  generalize fV n D w (1, 1) = q at x1 x2 x3 two
  generalize fV n D w (0, 1) = p at y1 y2 y3 ge two
  rcases two with ⟨rfl, z1, z2⟩ | ⟨rfl, z1, z2⟩
  · exact ⟨⟨⟨by omega, x1⟩, x2, x3⟩, ⟨⟨by omega, y1⟩, y2, y3⟩, Or.inl ⟨rfl, rfl⟩⟩
  · exact ⟨by decide, ⟨⟨by omega, y1⟩, y2, y3⟩, Or.inr ⟨rfl, rfl, by omega⟩⟩
theorem w2 (w : Int32) : (w = 0 ∧ ¬ mnV w 0 1 = 0) ∨ (w = 1 ∧ ¬ mnV w 0 1 = 0) ∨ (¬ w = 0 ∧ ¬ w = 1 ∧ mnV w 0 1 = 0) := by
  by_cases h0 : w = 0
  · subst h0; exact Or.inl ⟨rfl, by decide⟩
  · by_cases h1 : w = 1
    · subst h1; exact Or.inr (Or.inl ⟨rfl, by decide⟩)
    · refine Or.inr (Or.inr ⟨h0, h1, ?_⟩)
      by_cases h : mnV w 0 1 = 0
      · exact h
      · obtain ⟨e, h2⟩ := mn_tn (b := 1) (by decide) h
        have : tn w = 0 ∨ tn w = 1 := by omega
        rcases this with q | q
        · rw [q] at e; exact absurd e h0
        · rw [q] at e; exact absurd e h1
theorem K2_ge : 2 * 10 + 1 ≤ K2 := by unfold K2; decide
theorem sd_N {x g : Nat} (hx : x < 2 ^ 31) (hg : g < 2 ^ 31) (h1 : 1 ≤ g) : sdV (nI x) (nI g) = lN (x / g) := by
  unfold sdV
  by_cases e : g ≤ 1
  · rw [if_pos (show nI g ≤ 1 from nI_le (b := 1) e (by decide)), show g = 1 by omega, Nat.div_one]; exact nI_l hx
  · rw [if_neg (show ¬ nI g ≤ 1 from nI_ge (a := 1) (by omega) hg), pk_div hx (by omega) hg]
    exact nI_l (Nat.lt_of_le_of_lt (Nat.div_le_self _ _) hx)
theorem eq_stretch (h : Rl n d t D) (ke ha : Nat → Int32) (wy : Nat → Nat → Int32) (jd jn wm : Nat → Int32) (c p : Int32) : srR n d (LW n d ke ha wy c) c p = mtR n t (mgo n t jd jn wm (tn c)) c p ∧ (gdT K2 (msV n t (mgo n t jd jn wm (tn c))).1 (msV n t (mgo n t jd jn wm (tn c))).2 ∧ ¬ gdL K2 (msV n t (mgo n t jd jn wm (tn c))).1 (msV n t (mgo n t jd jn wm (tn c))).2 = 0) := by
  obtain ⟨w, hw, _, _, _, w4, w5⟩ := ways_eq h (cd := tn c) ke ha wy jd jn wm
  obtain ⟨a, b, A, B, ⟨e1, e2⟩, ⟨⟨a1, a2⟩, b1, b2⟩, ⟨⟨A1, A2⟩, B1, B2⟩, hc⟩ := fs_ms h (W := LW n d ke ha wy c) hw w4 w5
  unfold srR mtR
  rw [ic_M h.1.1 h.1.2, e1, e2]
  obtain ⟨g1, _, _⟩ := gd_all 10 64 a b (by omega) (by omega) (by omega) (by omega)
  obtain ⟨_, g2, g3⟩ := gd_all 10 K2 A B (by omega) K2_ge (by omega) (by omega)
  have ga : 1 ≤ Nat.gcd a b := Nat.gcd_pos_of_pos_left _ (by omega)
  have gA : 1 ≤ Nat.gcd A B := Nat.gcd_pos_of_pos_left _ (by omega)
  have ga2 : Nat.gcd a b ≤ a := Nat.gcd_le_left _ (by omega)
  have gA2 : Nat.gcd A B ≤ A := Nat.gcd_le_left _ (by omega)
  show _ ∧ gdT K2 (lN A) (lN B) ∧ ¬ gdL K2 (lN A) (lN B) = 0
  refine ⟨?_, g3, ?_⟩
  · show (if icM n c = 0 then (-102 : Int64) else if p = 0 then sdV (nI a) (gdF 64 (nI a) (nI b)) else if p = 1 then sdV (nI b) (gdF 64 (nI a) (nI b)) else -102) = if icM n c = 0 then (-102 : Int64) else if mnV p 0 1 = 0 then -102 else if p = 0 then lN A / gdL K2 (lN A) (lN B) else lN B / gdL K2 (lN A) (lN B)
    rw [g1, g2]
    by_cases q : icM n c = 0
    · rw [if_pos q, if_pos q]
    · rw [if_neg q, if_neg q, sd_N (by omega) (by omega) ga, sd_N (by omega) (by omega) ga, pk_lDiv (by omega) gA (by omega), pk_lDiv (by omega) gA (by omega)]
      have same : a / Nat.gcd a b = A / Nat.gcd A B ∧ b / Nat.gcd a b = B / Nat.gcd A B := by
        rcases hc with ⟨rfl, rfl⟩ | ⟨rfl, rfl, rfl⟩
        · exact ⟨rfl, rfl⟩
        · rw [Nat.gcd_self, Nat.gcd_self, Nat.div_self (by omega), Nat.div_self (by omega)]; exact ⟨rfl, rfl⟩
      rw [same.1, same.2]
      rcases w2 p with ⟨rfl, z⟩ | ⟨rfl, z⟩ | ⟨z0, z1, z⟩
      · rw [if_pos rfl, if_neg z, if_pos rfl]
      · rw [if_neg n10, if_pos rfl, if_neg z, if_neg n10]
      · rw [if_neg z0, if_neg z1, if_pos z]
  · rw [g2]; intro z
    exact absurd ((lN_eq (by omega) (by decide)).mp (z.trans (show (0 : Int64) = lN 0 from rfl))) (by omega)
end STR
