/-! both sides read the same tree -/
section TRE
variable {n : Nat}
theorem fill1 (ha : Nat → Int32) {p : Nat} (hp : p < 6) : fillA ha 1 p = 1 := by
  have := lp_fill (h := fun _ => (1 : Int32)) 6 0 ha p
  rw [if_pos (by omega)] at this
  exact this
theorem mj1_at (f : Nat → Int32) {p : Nat} (hp : p < n) : mj1 n f p = 1 := by
  have := lp_fill (h := fun _ => (1 : Int32)) n 0 f p
  rw [if_pos (by omega)] at this
  exact this
theorem dig {cd k : Nat} (hk : k < n - 2) : cd / n ^ (n - 2 - (k + 1)) % n = figV n cd k ∧ cd / n ^ (n - 2 - (k + 1)) / n = cd / n ^ (n - 2 - k) := by
  refine ⟨rfl, ?_⟩
  rw [Nat.div_div_eq_div_mul, show n - 2 - k = (n - 2 - (k + 1)) + 1 by omega, Nat.pow_succ]
theorem rf_ha (cd : Nat) : ∀ (k : Nat) (ke ha : Nat → Int32) (p : Nat), k ≤ n - 2 → (rfV n k (cd / n ^ (n - 2 - k)) ke ha).2 p = ha p + nI (ck (figV n cd) p 0 k) := by
  intro k
  induction k with
  | zero => intro ke ha p _; show ha p = ha p + nI 0; rw [nI_0, Int32.add_zero]
  | succ k ih =>
    intro ke ha p hk
    obtain ⟨d1, d2⟩ := dig (n := n) (cd := cd) (k := k) (by omega)
    rw [rfV, d1, d2, ih _ _ _ (by omega), ck_snoc, Nat.zero_add]
    unfold upd
    by_cases q : p = figV n cd k
    · subst q
      rw [if_pos rfl, if_pos rfl, ← nI_add, Int32.add_assoc, Int32.add_comm 1]
      rfl
    · rw [if_neg q, if_neg (fun e => q e.symm), Nat.add_zero]
theorem mjC_at (cd : Nat) : ∀ (k : Nat) (f : Nat → Int32) (p : Nat), k ≤ n - 2 → mjC n k (cd / n ^ (n - 2 - k)) f p = f p + nI (ck (figV n cd) p 0 k) := by
  intro k
  induction k with
  | zero => intro f p _; show f p = f p + nI 0; rw [nI_0, Int32.add_zero]
  | succ k ih =>
    intro f p hk
    obtain ⟨d1, d2⟩ := dig (n := n) (cd := cd) (k := k) (by omega)
    rw [mjC, d1, d2, ih _ _ (by omega), ck_snoc, Nat.zero_add]
    unfold upd
    by_cases q : p = figV n cd k
    · subst q
      rw [if_pos rfl, if_pos rfl, ← nI_add, Int32.add_assoc, Int32.add_comm 1]
      rfl
    · rw [if_neg q, if_neg (fun e => q e.symm), Nat.add_zero]
theorem h0_base (h6 : n ≤ 6) (cd : Nat) (ke ha : Nat → Int32) : ∀ p, p < n → h0V n cd ke ha p = nI (1 + ck (figV n cd) p 0 (n - 2)) := fun p hp => by
  have := rf_ha (n := n) cd (n - 2) ke (fillA ha 1) p (Nat.le_refl _)
  rw [Nat.sub_self, Nat.pow_zero, Nat.div_one, fill1 ha (by omega)] at this
  unfold h0V
  rw [this, ← nI_add]
  rfl
theorem j0_base (cd : Nat) (jn : Nat → Int32) : ∀ p, p < n → mj0 n cd jn p = nI (1 + ck (figV n cd) p 0 (n - 2)) := fun p hp => by
  have := mjC_at (n := n) cd (n - 2) (mj1 n jn) p (Nat.le_refl _)
  rw [Nat.sub_self, Nat.pow_zero, Nat.div_one, mj1_at jn hp] at this
  unfold mj0
  rw [this, ← nI_add]
  rfl
/-- the tree of a code, whatever lay in the rows before -/
abbrev TG (n cd : Nat) : Nat → Nat := GG n (figV n cd) (fun p => nI (1 + ck (figV n cd) p 0 (n - 2)))
abbrev TP (n cd : Nat) : Nat → Nat := PP n (figV n cd) (fun p => nI (1 + ck (figV n cd) p 0 (n - 2)))
theorem tl_congr {f g : Nat → Int32} : ∀ (k p : Nat), (∀ q, p ≤ q → q < p + k → f q = g q) → tlF f k p = tlF g k p := by
  intro k
  induction k with
  | zero => intro p _; rfl
  | succ k ih =>
    intro p h
    unfold tlF
    rw [h p (Nat.le_refl _) (by omega), ih (p + 1) (fun q h1 h2 => h q (by omega) (by omega))]
theorem tlV_congr (h2 : 2 ≤ n) {f g : Nat → Int32} (h : ∀ q, q < n → f q = g q) : tlV n f = tlV n g := tl_congr (n - 1) 0 (fun q _ h1 => h q (by omega))
theorem hq_congr (h2 : 2 ≤ n) {K : Nat → Nat} (hK : ∀ t, K t < n) {f g : Nat → Int32} (h : ∀ q, q < n → f q = g q) : ∀ s p, p < n → hqV n K f s p = hqV n K g s p := by
  intro s
  induction s with
  | zero => exact h
  | succ s ih =>
    intro p hp
    have e := tlV_congr h2 ih
    have hl := tlV_lt (hqV n K g s) h2
    have k1 := ih (K s) (hK s)
    have k2 := ih p hp
    show upd (upd _ _ 0) _ _ p = upd (upd _ _ 0) _ _ p
    rw [e]
    unfold upd
    split
    · split
      · rfl
      · rw [k1]
    · split
      · rfl
      · exact k2
theorem Gn_T (h2 : 2 ≤ n) (h6 : n ≤ 6) (cd : Nat) (ke ha : Nat → Int32) (s : Nat) : Gn n cd ke ha s = TG n cd s := tlV_congr h2 (hq_congr h2 (fun t => figV_lt cd t h2) (h0_base h6 cd ke ha) s)
theorem Kn_T (h2 : 2 ≤ n) (h6 : n ≤ 6) (cd : Nat) (ke ha : Nat → Int32) (s : Nat) : Kn n cd ke ha s = TP n cd s := by
  show Kn n cd ke ha s = PP n (figV n cd) (fun p => nI (1 + ck (figV n cd) p 0 (n - 2))) s
  unfold Kn PP
  split
  · refine tlV_congr h2 (fun p hp => ?_)
    unfold rdH1 rootH
    have e := Gn_T h2 h6 cd ke ha (n - 2)
    unfold Gn at e
    rw [e]
    unfold upd
    split
    · rfl
    · exact hq_congr h2 (fun t => figV_lt cd t h2) (h0_base h6 cd ke ha) _ p hp
  · rfl
theorem T_ok (h2 : 2 ≤ n) (h6 : n ≤ 6) (cd : Nat) : TreeOK n (TG n cd) (TP n cd) := tree_ok h2 h6 (fun t => figV_lt cd t h2) (fun _ _ => rfl)
theorem mjq_T (h2 : 2 ≤ n) (h6 : n ≤ 6) (cd : Nat) (jn : Nat → Int32) : ∀ s, s ≤ n - 2 → (∀ p, p < n → mjq n cd (mj0 n cd jn) s p = hqV n (figV n cd) (fun p => nI (1 + ck (figV n cd) p 0 (n - 2))) s p) ∧ lfV (mjq n cd (mj0 n cd jn) s) = TG n cd s := by
  have hK := fun t => figV_lt cd t h2
  have hall := HI_all (h0 := fun p => nI (1 + ck (figV n cd) p 0 (n - 2))) h2 h6 hK (fun _ _ => rfl)
  intro s
  induction s with
  | zero =>
    intro hs
    have e : ∀ p, p < n → mjq n cd (mj0 n cd jn) 0 p = hqV n (figV n cd) (fun p => nI (1 + ck (figV n cd) p 0 (n - 2))) 0 p := j0_base cd jn
    exact ⟨e, lf_tl h2 h6 e ⟨_, tlV_lt _ h2, HI_leaf h2 hK hs (hall 0 hs)⟩⟩
  | succ s ih =>
    intro hs
    obtain ⟨i1, i2⟩ := ih (by omega)
    have hl := HI_leaf h2 hK (by omega) (hall s (by omega))
    have hg := tlV_lt (hqV n (figV n cd) (fun p => nI (1 + ck (figV n cd) p 0 (n - 2))) s) h2
    have e : ∀ p, p < n → mjq n cd (mj0 n cd jn) (s + 1) p = hqV n (figV n cd) (fun p => nI (1 + ck (figV n cd) p 0 (n - 2))) (s + 1) p := fun p hp => by
      have eR : hqV n (figV n cd) (fun p => nI (1 + ck (figV n cd) p 0 (n - 2))) (s + 1) p = upd (upd (hqV n (figV n cd) (fun p => nI (1 + ck (figV n cd) p 0 (n - 2))) s) (TG n cd s) 0) (figV n cd s) (upd (hqV n (figV n cd) (fun p => nI (1 + ck (figV n cd) p 0 (n - 2))) s) (TG n cd s) 0 (figV n cd s) - 1) p := rfl
      rw [eR]
      show jnU _ _ _ p = _
      rw [i2]
      unfold jnU
      have a1 := i1 (TG n cd s) hg
      have a2 := i1 (figV n cd s) (hK s)
      have a3 := i1 p hp
      have z : mjq n cd (mj0 n cd jn) s (TG n cd s) - 1 = 0 := by rw [a1, hl]; rfl
      rw [z]
      unfold upd
      split
      · split
        · rfl
        · rw [a2]
      · split
        · rfl
        · exact a3
    exact ⟨e, lf_tl h2 h6 e ⟨_, tlV_lt _ h2, HI_leaf h2 hK hs (hall (s + 1) hs)⟩⟩
theorem mlab (h2 : 2 ≤ n) (h6 : n ≤ 6) (cd : Nat) (jn : Nat → Int32) : mla n cd jn = TG n cd (n - 2) ∧ mlb n cd jn = TP n cd (n - 2) := by
  have hK := fun t => figV_lt cd t h2
  have hall := HI_all (h0 := fun p => nI (1 + ck (figV n cd) p 0 (n - 2))) h2 h6 hK (fun _ _ => rfl)
  obtain ⟨i1, i2⟩ := mjq_T h2 h6 cd jn (n - 2) (Nat.le_refl _)
  refine ⟨i2, ?_⟩
  have e : TP n cd (n - 2) = tlV n (rootH n (figV n cd) (fun p => nI (1 + ck (figV n cd) p 0 (n - 2)))) := if_pos rfl
  rw [e]
  refine lf_tl h2 h6 (fun p hp => ?_) (root_ok h2 h6 hK (hall (n - 2) (Nat.le_refl _)))
  unfold rootH mla
  rw [i2]
  unfold upd
  split
  · rfl
  · exact i1 p hp
theorem LfOK_all (h2 : 2 ≤ n) (h6 : n ≤ 6) : ∀ (cd : Nat), cd < cmV n → ∀ jn : Nat → Int32, LfOK n cd jn := fun cd _ jn => by
  refine ⟨fun s hs => ?_, ?_⟩
  · rw [(mjq_T h2 h6 cd jn s hs).2]
    have := ((T_ok h2 h6 cd).1 s).1
    omega
  · rw [(mlab h2 h6 cd jn).2]
    have := ((T_ok h2 h6 cd).1 (n - 2)).2
    omega
/-- are two points joined -/
def Ed (n cd : Nat) (a b : Nat) : Prop := ∃ t, t ≤ n - 2 ∧ ((TG n cd t = a ∧ TP n cd t = b) ∨ (TG n cd t = b ∧ TP n cd t = a))
theorem jdU_at (f : Nat → Int32) {u v a b : Nat} (hu : u < 6) (hv : v < 6) (ha : a < 6) (hb : b < 6) : jdU f u v (6 * a + b) = if (a = u ∧ b = v) ∨ (a = v ∧ b = u) then 1 else f (6 * a + b) := by
  unfold jdU upd
  by_cases h1 : a = v ∧ b = u
  · rw [if_pos (by omega), if_pos (Or.inr h1)]
  · rw [if_neg (by omega)]
    by_cases h2 : a = u ∧ b = v
    · rw [if_pos (by omega), if_pos (Or.inl h2)]
    · rw [if_neg (by omega), if_neg (fun q => q.elim h2 h1)]
theorem z36_at (f : Nat → Int32) {x : Nat} (hx : x < 36) : z36 f x = 0 := by
  have := lp_fill (h := fun _ => (0 : Int32)) 36 0 f x
  rw [if_pos (by omega)] at this
  exact this
theorem mlD_at (h2 : 2 ≤ n) (h6 : n ≤ 6) (cd : Nat) (jd jn : Nat → Int32) {a b : Nat} (ha : a < n) (hb : b < n) : (Ed n cd a b → mlD n cd jd jn (6 * a + b) = 1) ∧ (¬ Ed n cd a b → mlD n cd jd jn (6 * a + b) = 0) := by
  have hok := (T_ok h2 h6 cd).1
  have key : ∀ s, s ≤ n - 2 → ((∃ t, t < s ∧ ((TG n cd t = a ∧ figV n cd t = b) ∨ (TG n cd t = b ∧ figV n cd t = a))) → mjd n cd (mj0 n cd jn) (z36 jd) s (6 * a + b) = 1) ∧ (¬ (∃ t, t < s ∧ ((TG n cd t = a ∧ figV n cd t = b) ∨ (TG n cd t = b ∧ figV n cd t = a))) → mjd n cd (mj0 n cd jn) (z36 jd) s (6 * a + b) = 0) := by
    intro s
    induction s with
    | zero => intro _; exact ⟨fun ⟨t, ht, _⟩ => by omega, fun _ => z36_at jd (by omega)⟩
    | succ s ih =>
      intro hs
      obtain ⟨i1, i2⟩ := ih (by omega)
      have hg := (hok s).1
      have hf := figV_lt cd s h2
      show (_ → jdU _ _ _ (6 * a + b) = 1) ∧ (_ → jdU _ _ _ (6 * a + b) = 0)
      rw [(mjq_T h2 h6 cd jn s (by omega)).2, jdU_at _ (by omega) (by omega) (by omega) (by omega)]
      by_cases q : (a = TG n cd s ∧ b = figV n cd s) ∨ (a = figV n cd s ∧ b = TG n cd s)
      · rw [if_pos q]
        exact ⟨fun _ => rfl, fun w => absurd ⟨s, by omega, by rcases q with ⟨x, y⟩ | ⟨x, y⟩ <;> simp [x, y]⟩ w⟩
      · rw [if_neg q]
        refine ⟨fun ⟨t, ht, he⟩ => ?_, fun w => ?_⟩
        · by_cases e : t = s
          · subst e
            exact absurd (by rcases he with ⟨x, y⟩ | ⟨x, y⟩ <;> simp [x, y]) q
          · exact i1 ⟨t, by omega, he⟩
        · exact i2 (fun ⟨t, ht, he⟩ => w ⟨t, by omega, he⟩)
  obtain ⟨k1, k2⟩ := key (n - 2) (Nat.le_refl _)
  obtain ⟨m1, m2⟩ := mlab h2 h6 cd jn
  have hg := (hok (n - 2)).1
  have hp := (hok (n - 2)).2
  unfold mlD
  rw [m1, m2, jdU_at _ (by omega) (by omega) (by omega) (by omega)]
  have eP : ∀ t, t < n - 2 → TP n cd t = figV n cd t := fun t ht => if_neg (by omega)
  by_cases q : (a = TG n cd (n - 2) ∧ b = TP n cd (n - 2)) ∨ (a = TP n cd (n - 2) ∧ b = TG n cd (n - 2))
  · rw [if_pos q]
    exact ⟨fun _ => rfl, fun w => absurd ⟨n - 2, Nat.le_refl _, by rcases q with ⟨x, y⟩ | ⟨x, y⟩ <;> simp [x, y]⟩ w⟩
  · rw [if_neg q]
    refine ⟨fun ⟨t, ht, he⟩ => ?_, fun w => ?_⟩
    · by_cases e : t = n - 2
      · subst e
        exact absurd (by rcases he with ⟨x, y⟩ | ⟨x, y⟩ <;> simp [x, y]) q
      · rw [eP t (by omega)] at he
        exact k1 ⟨t, by omega, he⟩
    · exact k2 (fun ⟨t, ht, he⟩ => w ⟨t, by omega, by rw [eP t ht]; exact he⟩)
theorem jn_at (h2 : 2 ≤ n) (h6 : n ≤ 6) (cd : Nat) {go ke : Nat → Int32} (hgo : ∀ s, s ≤ n - 2 → go s = nI (TG n cd s)) (hke : ∀ s, s ≤ n - 2 → ke s = nI (TP n cd s)) {a b : Nat} (ha : a < n) (hb : b < n) : (Ed n cd a b → jnV n go ke (nI a) (nI b) = 1) ∧ (¬ Ed n cd a b → jnV n go ke (nI a) (nI b) = 0) := by
  have hok := (T_ok h2 h6 cd).1
  have ha6 : a < 6 := by omega
  have hb6 : b < 6 := by omega
  have sle : ∀ s, s < 0 + (n - 1) → s ≤ n - 2 := fun s h => by omega
  have key := lp_ix (fun k (v : Int32) => ((∃ t, t < k ∧ ((TG n cd t = a ∧ TP n cd t = b) ∨ (TG n cd t = b ∧ TP n cd t = a))) → v = 1) ∧ (¬ (∃ t, t < k ∧ ((TG n cd t = a ∧ TP n cd t = b) ∨ (TG n cd t = b ∧ TP n cd t = a))) → v = 0)) (f := jnF go ke (nI a) (nI b)) (n - 1) 0 0 (fun s v _ hs hp => by
    obtain ⟨i1, i2⟩ := hp
    have hg := (hok s).1
    have hf := (hok s).2
    have c1 : (go s = nI a) ↔ TG n cd s = a := by rw [hgo s (sle s hs)]; exact nIe (Nat.lt_of_lt_of_le hg h6) ha6
    have c2 : (ke s = nI b) ↔ TP n cd s = b := by rw [hke s (sle s hs)]; exact nIe (Nat.lt_of_lt_of_le hf h6) hb6
    have c3 : (go s = nI b) ↔ TG n cd s = b := by rw [hgo s (sle s hs)]; exact nIe (Nat.lt_of_lt_of_le hg h6) hb6
    have c4 : (ke s = nI a) ↔ TP n cd s = a := by rw [hke s (sle s hs)]; exact nIe (Nat.lt_of_lt_of_le hf h6) ha6
    have hstep : ∀ {A : Prop}, (∃ t, t < s + 1 ∧ ((TG n cd t = a ∧ TP n cd t = b) ∨ (TG n cd t = b ∧ TP n cd t = a))) ↔ ((∃ t, t < s ∧ ((TG n cd t = a ∧ TP n cd t = b) ∨ (TG n cd t = b ∧ TP n cd t = a))) ∨ ((TG n cd s = a ∧ TP n cd s = b) ∨ (TG n cd s = b ∧ TP n cd s = a))) := fun {A} => by
      constructor
      · rintro ⟨t, ht, he⟩
        by_cases e : t = s
        · subst e; exact Or.inr he
        · exact Or.inl ⟨t, by omega, he⟩
      · rintro (⟨t, ht, he⟩ | he)
        · exact ⟨t, by omega, he⟩
        · exact ⟨s, by omega, he⟩
    rw [hstep (A := True)]
    unfold jnF
    by_cases q0 : ∃ t, t < s ∧ ((TG n cd t = a ∧ TP n cd t = b) ∨ (TG n cd t = b ∧ TP n cd t = a))
    · rw [i1 q0, if_neg n10]
      exact ⟨fun _ => rfl, fun w => absurd (Or.inl q0) w⟩
    · rw [i2 q0, if_pos rfl]
      by_cases b1 : TG n cd s = a <;> by_cases b2 : TP n cd s = b <;> by_cases b3 : TG n cd s = b <;> by_cases b4 : TP n cd s = a <;> simp [c1, c2, c3, c4, b1, b2, b3, b4, q0] <;> simp_all) ⟨fun ⟨t, ht, _⟩ => by omega, fun _ => rfl⟩
  rw [Nat.zero_add] at key
  refine ⟨fun ⟨t, ht, he⟩ => key.1 ⟨t, by omega, he⟩, fun w => key.2 (fun ⟨t, ht, he⟩ => w ⟨t, by omega, he⟩)⟩
end TRE
