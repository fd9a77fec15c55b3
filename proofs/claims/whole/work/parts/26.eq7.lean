/-! codes of trees: which point hangs alone at each step -/
def ck (F : Nat → Nat) (p : Nat) : Nat → Nat → Nat
  | _, 0 => 0
  | s, e + 1 => (if F s = p then 1 else 0) + ck F p (s + 1) e
theorem ck_snoc (F : Nat → Nat) (p : Nat) : ∀ (e s : Nat), ck F p s (e + 1) = ck F p s e + (if F (s + e) = p then 1 else 0) := by
  intro e
  induction e with
  | zero => intro s; show (if F s = p then 1 else 0) + 0 = 0 + _; rw [Nat.add_zero s]; omega
  | succ e ih =>
    intro s
    show (if F s = p then 1 else 0) + ck F p (s + 1) (e + 1) = (if F s = p then 1 else 0) + ck F p (s + 1) e + _
    rw [ih (s + 1), show s + 1 + e = s + (e + 1) by omega]
    omega
theorem sum_one {m c : Nat} (hc : c < m) : lp (fun a p => a + (if c = p then 1 else 0)) 0 m 0 = 1 := by
  have h1 : ∀ (k i a : Nat), (∀ p, i ≤ p → p < i + k → c ≠ p) → lp (fun a p => a + (if c = p then 1 else 0)) i k a = a := by
    intro k
    induction k with
    | zero => intro i a _; rfl
    | succ k ih =>
      intro i a h
      rw [lp_s, if_neg (h i (Nat.le_refl _) (by omega))]
      exact ih (i + 1) (a + 0) (fun p h1 h2 => h p (by omega) (by omega))
  rw [show m = c + ((m - c - 1) + 1) by omega, lp_app, lp_s, h1 c 0 0 (fun p _ h => by omega), Nat.zero_add, if_pos rfl, h1 _ _ _ (fun p h _ => by omega)]
theorem sum_add (f g : Nat → Nat) : ∀ (k i : Nat), lp (fun a p => a + (f p + g p)) i k 0 = lp (fun a p => a + f p) i k 0 + lp (fun a p => a + g p) i k 0 := by
  intro k
  induction k with
  | zero => intro i; rfl
  | succ k ih =>
    intro i
    rw [lp_s, lp_s, lp_s, lp_addN, lp_addN (fun p => f p), lp_addN (fun p => g p), ih]
    omega
theorem sum_ck {m : Nat} (F : Nat → Nat) : ∀ (e s : Nat), (∀ t, s ≤ t → t < s + e → F t < m) → lp (fun a p => a + ck F p s e) 0 m 0 = e := by
  intro e
  induction e with
  | zero =>
    intro s _
    show lp (fun a (_ : Nat) => a + 0) 0 m 0 = 0
    rw [lp_const]; omega
  | succ e ih =>
    intro s h
    show lp (fun a p => a + ((if F s = p then 1 else 0) + ck F p (s + 1) e)) 0 m 0 = e + 1
    rw [sum_add, sum_one (h s (Nat.le_refl _) (by omega)), ih (s + 1) (fun t h1 h2 => h t (by omega) (by omega))]
    omega
theorem sum_ge {m : Nat} (g : Nat → Nat) (h : ∀ p, p < m → 1 ≤ g p) : m ≤ lp (fun a p => a + g p) 0 m 0 := by
  have : ∀ (k i a : Nat), (∀ p, i ≤ p → p < i + k → 1 ≤ g p) → a + k ≤ lp (fun a p => a + g p) i k a := by
    intro k
    induction k with
    | zero => intro i a _; exact Nat.le_refl _
    | succ k ih =>
      intro i a h
      have h1 := h i (Nat.le_refl _) (by omega)
      have h2 := ih (i + 1) (a + g i) (fun p h1 h2 => h p (by omega) (by omega))
      rw [lp_s]
      omega
  have h1 := this m 0 0 (fun p _ hp => h p (by omega))
  omega
theorem sum_small {m S : Nat} (g : Nat → Nat) (hs : lp (fun a p => a + g p) 0 m 0 = S) (h : S < m) : ∃ p, p < m ∧ g p = 0 := by
  by_cases q : ∃ p, p < m ∧ g p = 0
  · exact q
  · have := sum_ge g (fun p hp => by
      rcases Nat.eq_zero_or_pos (g p) with e | e
      · exact absurd ⟨p, hp, e⟩ q
      · exact e)
    omega
theorem ck_pos (F : Nat → Nat) {p t : Nat} : ∀ (e s : Nat), s ≤ t → t < s + e → F t = p → 1 ≤ ck F p s e := by
  intro e
  induction e with
  | zero => intro s h1 h2; omega
  | succ e ih =>
    intro s h1 h2 h3
    show 1 ≤ (if F s = p then 1 else 0) + ck F p (s + 1) e
    by_cases q : s = t
    · subst q; rw [if_pos h3]; omega
    · have := ih (s + 1) (by omega) (by omega) h3; omega
theorem ck_ex (F : Nat → Nat) {p : Nat} : ∀ (e s : Nat), 1 ≤ ck F p s e → ∃ t, s ≤ t ∧ t < s + e ∧ F t = p := by
  intro e
  induction e with
  | zero => intro s h; exact absurd h (by show ¬ 1 ≤ 0; omega)
  | succ e ih =>
    intro s h
    by_cases q : F s = p
    · exact ⟨s, Nat.le_refl _, by omega, q⟩
    · have h' : 1 ≤ (if F s = p then 1 else 0) + ck F p (s + 1) e := h
      rw [if_neg q] at h'
      obtain ⟨t, h1, h2, h3⟩ := ih (s + 1) (by omega)
      exact ⟨t, by omega, by omega, h3⟩
/-- the first that holds 1 -/
theorem tl_spec (f : Nat → Int32) : ∀ (k p : Nat), (∃ q, p ≤ q ∧ q ≤ p + k ∧ f q = 1) → f (tlF f k p) = 1 ∧ ∀ q, p ≤ q → q < tlF f k p → ¬ f q = 1 := by
  intro k
  induction k with
  | zero =>
    intro p h
    obtain ⟨q, h1, h2, h3⟩ := h
    have : q = p := by omega
    subst this
    exact ⟨h3, fun q' h1 h2 => by have : tlF f 0 q = q := rfl; omega⟩
  | succ k ih =>
    intro p h
    unfold tlF
    by_cases e : f p = 1
    · rw [if_pos e]; exact ⟨e, fun q h1 h2 => by omega⟩
    · rw [if_neg e]
      obtain ⟨q, h1, h2, h3⟩ := h
      have hq : q ≠ p := fun z => e (z ▸ h3)
      obtain ⟨r1, r2⟩ := ih (p + 1) ⟨q, by omega, by omega, h3⟩
      refine ⟨r1, fun q' h1 h2 => ?_⟩
      by_cases z : q' = p
      · subst z; exact e
      · exact r2 q' (by omega) h2
theorem tlV_spec {n : Nat} (h2 : 2 ≤ n) {f : Nat → Int32} (h : ∃ q, q < n ∧ f q = 1) : f (tlV n f) = 1 ∧ ∀ q, q < tlV n f → ¬ f q = 1 := by
  obtain ⟨q, h1, h3⟩ := h
  obtain ⟨r1, r2⟩ := tl_spec f (n - 1) 0 ⟨q, by omega, by omega, h3⟩
  exact ⟨r1, fun q hq => r2 q (Nat.zero_le _) hq⟩
theorem lf_tl {n : Nat} (h2 : 2 ≤ n) (h6 : n ≤ 6) {f g : Nat → Int32} (hfg : ∀ p, p < n → f p = g p) (h : ∃ q, q < n ∧ g q = 1) : lfV f = tlV n g := by
  obtain ⟨a1, a2⟩ := tlV_spec h2 h
  have lt := tlV_lt g h2
  obtain ⟨b1, b2⟩ := tl_spec f 6 0 ⟨tlV n g, by omega, by omega, by rw [hfg _ lt]; exact a1⟩
  unfold lfV
  rcases Nat.lt_trichotomy (tlF f 6 0) (tlV n g) with q | q | q
  · exact absurd (by rw [← hfg _ (by omega)]; exact b1) (a2 _ q)
  · exact q
  · exact absurd (by rw [hfg _ lt]; exact a1) (b2 _ (Nat.zero_le _) q)
section PRU
variable {n : Nat} {K : Nat → Nat} {h0 : Nat → Int32}
def GG (n : Nat) (K : Nat → Nat) (h0 : Nat → Int32) (s : Nat) : Nat := tlV n (hqV n K h0 s)
def HI (n : Nat) (K : Nat → Nat) (h0 : Nat → Int32) (s : Nat) : Prop := ∀ p, p < n → (ck (GG n K h0) p 0 s = 0 → hqV n K h0 s p = nI (1 + ck K p s (n - 2 - s))) ∧ (1 ≤ ck (GG n K h0) p 0 s → hqV n K h0 s p = 0 ∧ ck K p s (n - 2 - s) = 0)
theorem HI_leaf (h2 : 2 ≤ n) (hK : ∀ t, K t < n) {s : Nat} (hs : s ≤ n - 2) (h : HI n K h0 s) : hqV n K h0 s (GG n K h0 s) = 1 := by
  have hG : ∀ t, GG n K h0 t < n := fun t => tlV_lt _ h2
  have e := sum_add (fun p => ck (GG n K h0) p 0 s) (fun p => ck K p s (n - 2 - s)) n 0
  rw [sum_ck (GG n K h0) s 0 (fun t _ _ => hG t), sum_ck K (n - 2 - s) s (fun t _ _ => hK t)] at e
  obtain ⟨p, hp, hz⟩ := sum_small _ e (by omega)
  refine (tlV_spec h2 ⟨p, hp, ?_⟩).1
  rw [(h p hp).1 (by omega)]
  have : ck K p s (n - 2 - s) = 0 := by omega
  rw [this]
  rfl
theorem HI_alive (h2 : 2 ≤ n) (h6 : n ≤ 6) (hK : ∀ t, K t < n) {s : Nat} (hs : s ≤ n - 2) (h : HI n K h0 s) : ck (GG n K h0) (GG n K h0 s) 0 s = 0 ∧ ck K (GG n K h0 s) s (n - 2 - s) = 0 := by
  have hl := HI_leaf h2 hK hs h
  have hp := tlV_lt (hqV n K h0 s) h2
  obtain ⟨a, b⟩ := h (GG n K h0 s) hp
  have ckb : ∀ (F : Nat → Nat) (p e s : Nat), ck F p s e ≤ e := by
    intro F p e
    induction e with
    | zero => intro s; exact Nat.le_refl _
    | succ e ih => intro s; show (if F s = p then 1 else 0) + ck F p (s + 1) e ≤ e + 1; have := ih (s + 1); split <;> omega
  rcases Nat.eq_zero_or_pos (ck (GG n K h0) (GG n K h0 s) 0 s) with q | q
  · refine ⟨q, ?_⟩
    have e := a q
    rw [hl] at e
    have hb := ckb K (GG n K h0 s) (n - 2 - s) s
    have := (nI_eq (a := 1) (b := 1 + ck K (GG n K h0 s) s (n - 2 - s)) (by decide) (by omega)).mp e
    omega
  · have := (b q).1
    rw [hl] at this
    exact absurd this (by decide)
theorem HI_step (h2 : 2 ≤ n) (h6 : n ≤ 6) (hK : ∀ t, K t < n) {s : Nat} (hs : s < n - 2) (h : HI n K h0 s) : HI n K h0 (s + 1) := by
  obtain ⟨g1, g2⟩ := HI_alive h2 h6 hK (by omega) h
  have hg : GG n K h0 s < n := tlV_lt _ h2
  have es : ∀ p, ck K p s (n - 2 - s) = (if K s = p then 1 else 0) + ck K p (s + 1) (n - 2 - (s + 1)) := fun p => by
    rw [show n - 2 - s = (n - 2 - (s + 1)) + 1 by omega]; rfl
  have eg : ∀ p, ck (GG n K h0) p 0 (s + 1) = ck (GG n K h0) p 0 s + (if GG n K h0 s = p then 1 else 0) := fun p => by
    rw [ck_snoc, Nat.zero_add]
  have kg : K s ≠ GG n K h0 s := fun e => by have := es (GG n K h0 s); rw [if_pos e] at this; omega
  have ka : ck (GG n K h0) (K s) 0 s = 0 := by
    rcases Nat.eq_zero_or_pos (ck (GG n K h0) (K s) 0 s) with q | q
    · exact q
    · have a := ((h (K s) (hK s)).2 q).2
      have b := es (K s)
      rw [if_pos rfl] at b
      omega
  intro p hp
  obtain ⟨a, b⟩ := h p hp
  have eh : hqV n K h0 (s + 1) p = if p = K s then (hqV n K h0 s (K s) - 1) else if p = GG n K h0 s then 0 else hqV n K h0 s p := by
    show upd (upd (hqV n K h0 s) (GG n K h0 s) 0) (K s) (upd (hqV n K h0 s) (GG n K h0 s) 0 (K s) - 1) p = _
    unfold upd
    by_cases q : p = K s
    · rw [if_pos q, if_pos q, if_neg kg]
    · rw [if_neg q, if_neg q]
  rw [eh, eg p]
  by_cases q1 : p = K s
  · subst q1
    rw [if_pos rfl, if_neg (Ne.symm kg)]
    refine ⟨fun _ => ?_, fun w => by omega⟩
    rw [a (by omega), es (K s), if_pos rfl, show 1 + (1 + ck K (K s) (s + 1) (n - 2 - (s + 1))) = (1 + ck K (K s) (s + 1) (n - 2 - (s + 1))) + 1 by omega]
    exact nI_pred _
  · rw [if_neg q1]
    have ep := es p
    rw [if_neg (fun e => q1 e.symm)] at ep
    by_cases q2 : p = GG n K h0 s
    · subst q2
      rw [if_pos rfl, if_pos rfl]
      exact ⟨fun w => by omega, fun _ => ⟨rfl, by omega⟩⟩
    · rw [if_neg q2, if_neg (fun e => q2 e.symm)]
      refine ⟨fun w => ?_, fun w => ?_⟩
      · rw [a (by omega), ep, Nat.zero_add]
      · obtain ⟨b1, b2⟩ := b (by omega)
        exact ⟨b1, by omega⟩
theorem HI_all (h2 : 2 ≤ n) (h6 : n ≤ 6) (hK : ∀ t, K t < n) (hb : ∀ p, p < n → h0 p = nI (1 + ck K p 0 (n - 2))) : ∀ s, s ≤ n - 2 → HI n K h0 s := by
  intro s
  induction s with
  | zero => intro _ p hp; exact ⟨fun _ => hb p hp, fun w => absurd w (by show ¬ 1 ≤ 0; omega)⟩
  | succ s ih => intro hs; exact HI_step h2 h6 hK (by omega) (ih (by omega))
/-- the tree: G t hangs on P t; the last P is the root -/
def TreeOK (n : Nat) (G P : Nat → Nat) : Prop := (∀ t, G t < n ∧ P t < n) ∧ (∀ t u, t < u → u ≤ n - 2 → G t ≠ G u) ∧ (∀ t, t ≤ n - 2 → G t ≠ P (n - 2)) ∧ (∀ t u, t ≤ u → u ≤ n - 2 → P u ≠ G t) ∧ (∀ p, p < n → p = P (n - 2) ∨ ∃ t, t ≤ n - 2 ∧ G t = p)
def rootH (n : Nat) (K : Nat → Nat) (h0 : Nat → Int32) : Nat → Int32 := upd (hqV n K h0 (n - 2)) (GG n K h0 (n - 2)) 0
def PP (n : Nat) (K : Nat → Nat) (h0 : Nat → Int32) (s : Nat) : Nat := if s = n - 2 then tlV n (rootH n K h0) else K s
theorem root_ok (h2 : 2 ≤ n) (h6 : n ≤ 6) (hK : ∀ t, K t < n) (h : HI n K h0 (n - 2)) : ∃ q, q < n ∧ rootH n K h0 q = 1 := by
  have hG : ∀ t, GG n K h0 t < n := fun t => tlV_lt _ h2
  have e := sum_ck (m := n) (GG n K h0) (n - 2 + 1) 0 (fun t _ _ => hG t)
  obtain ⟨p, hp, hz⟩ := sum_small _ e (by omega)
  rw [ck_snoc, Nat.zero_add] at hz
  have hne : p ≠ GG n K h0 (n - 2) := fun w => by rw [if_pos w.symm] at hz; omega
  refine ⟨p, hp, ?_⟩
  unfold rootH
  rw [pk_un hne, (h p hp).1 (by omega), show n - 2 - (n - 2) = 0 by omega]
  rfl
theorem tree_ok (h2 : 2 ≤ n) (h6 : n ≤ 6) (hK : ∀ t, K t < n) (hb : ∀ p, p < n → h0 p = nI (1 + ck K p 0 (n - 2))) : TreeOK n (GG n K h0) (PP n K h0) := by
  have hall := HI_all h2 h6 hK hb
  have hG : ∀ t, GG n K h0 t < n := fun t => tlV_lt _ h2
  have hlast := hall (n - 2) (Nat.le_refl _)
  obtain ⟨r1, -⟩ := tlV_spec h2 (root_ok h2 h6 hK hlast)
  have rlt := tlV_lt (rootH n K h0) h2
  have rne : tlV n (rootH n K h0) ≠ GG n K h0 (n - 2) := fun e => by
    rw [e] at r1; unfold rootH at r1; rw [pk_us] at r1; exact absurd r1 (by decide)
  have ral : ck (GG n K h0) (tlV n (rootH n K h0)) 0 (n - 2) = 0 := by
    rcases Nat.eq_zero_or_pos (ck (GG n K h0) (tlV n (rootH n K h0)) 0 (n - 2)) with q | q
    · exact q
    · have a := ((hlast _ rlt).2 q).1
      have r2 : upd (hqV n K h0 (n - 2)) (GG n K h0 (n - 2)) 0 (tlV n (rootH n K h0)) = 1 := r1
      rw [pk_un rne, a] at r2
      exact absurd r2 (by decide)
  have ePl : PP n K h0 (n - 2) = tlV n (rootH n K h0) := if_pos rfl
  have dist : ∀ t u, t < u → u ≤ n - 2 → GG n K h0 t ≠ GG n K h0 u := fun t u h1 h3 e => by
    have a := (HI_alive h2 h6 hK h3 (hall u h3)).1
    have b := ck_pos (GG n K h0) (p := GG n K h0 u) (t := t) u 0 (Nat.zero_le _) (by omega) e
    omega
  have rootG : ∀ t, t ≤ n - 2 → GG n K h0 t ≠ PP n K h0 (n - 2) := fun t ht e => by
    rw [ePl] at e
    by_cases q : t = n - 2
    · subst q; exact rne e.symm
    · have b := ck_pos (GG n K h0) (p := tlV n (rootH n K h0)) (t := t) (n - 2) 0 (Nat.zero_le _) (by omega) e
      omega
  refine ⟨fun t => ⟨hG t, ?_⟩, dist, rootG, fun t u h1 h3 e => ?_, fun p hp => ?_⟩
  · unfold PP; split
    · exact rlt
    · exact hK t
  · by_cases q : u = n - 2
    · subst q; exact rootG t h1 e.symm
    · have eu : PP n K h0 u = K u := if_neg q
      rw [eu] at e
      have a := ck_pos K (p := K u) (t := u) (n - 2 - u) u (Nat.le_refl _) (by omega) rfl
      rcases Nat.eq_zero_or_pos (ck (GG n K h0) (K u) 0 u) with z | z
      · by_cases w : t = u
        · subst w
          have b := (HI_alive h2 h6 hK h3 (hall t h3)).2
          rw [← e] at b
          omega
        · have b := ck_pos (GG n K h0) (p := K u) (t := t) u 0 (Nat.zero_le _) (by omega) e.symm
          omega
      · have b := ((hall u h3 (K u) (hK u)).2 z).2
        omega
  · by_cases q : p = PP n K h0 (n - 2)
    · exact Or.inl q
    · refine Or.inr ?_
      rcases Nat.eq_zero_or_pos (ck (GG n K h0) p 0 (n - 2 + 1)) with z | z
      · exfalso
        have hle : ∀ x, x < n → ck (GG n K h0) x 0 (n - 2 + 1) + (if PP n K h0 (n - 2) = x then 1 else 0) ≤ 1 := fun x hx => by
          have one : ∀ e s, s + e ≤ n - 2 + 1 → ck (GG n K h0) x s e ≤ 1 := by
            intro e
            induction e with
            | zero => intro s _; exact Nat.zero_le _
            | succ e ih =>
              intro s hs
              show (if GG n K h0 s = x then 1 else 0) + ck (GG n K h0) x (s + 1) e ≤ 1
              by_cases w : GG n K h0 s = x
              · rw [if_pos w]
                rcases Nat.eq_zero_or_pos (ck (GG n K h0) x (s + 1) e) with y | y
                · omega
                · obtain ⟨u, u1, u2, u3⟩ := ck_ex (GG n K h0) e (s + 1) y
                  exact absurd (w.trans u3.symm) (dist s u (by omega) (by omega))
              · rw [if_neg w]; have := ih (s + 1) (by omega); omega
          by_cases w : PP n K h0 (n - 2) = x
          · rw [if_pos w]
            rcases Nat.eq_zero_or_pos (ck (GG n K h0) x 0 (n - 2 + 1)) with y | y
            · omega
            · obtain ⟨u, u1, u2, u3⟩ := ck_ex (GG n K h0) (n - 2 + 1) 0 y
              exact absurd (u3.trans w.symm) (rootG u (by omega))
          · rw [if_neg w]; have := one (n - 2 + 1) 0 (by omega); omega
        have e1 := sum_add (fun x => ck (GG n K h0) x 0 (n - 2 + 1)) (fun x => if PP n K h0 (n - 2) = x then 1 else 0) n 0
        rw [sum_ck (GG n K h0) (n - 2 + 1) 0 (fun t _ _ => hG t), sum_one (by rw [ePl]; exact rlt)] at e1
        have hub : ∀ (k i a : Nat), i + k ≤ n → lp (fun a x => a + (ck (GG n K h0) x 0 (n - 2 + 1) + (if PP n K h0 (n - 2) = x then 1 else 0))) i k a ≤ a + k ∧ (i ≤ p → p < i + k → lp (fun a x => a + (ck (GG n K h0) x 0 (n - 2 + 1) + (if PP n K h0 (n - 2) = x then 1 else 0))) i k a + 1 ≤ a + k) := by
          intro k
          induction k with
          | zero => intro i a _; exact ⟨Nat.le_refl _, fun h1 h3 => by omega⟩
          | succ k ih =>
            intro i a hik
            rw [lp_s]
            obtain ⟨j1, j2⟩ := ih (i + 1) (a + (ck (GG n K h0) i 0 (n - 2 + 1) + (if PP n K h0 (n - 2) = i then 1 else 0))) (by omega)
            have hi1 := hle i (by omega)
            refine ⟨by omega, fun h1 h3 => ?_⟩
            by_cases w : i = p
            · subst w
              have : ck (GG n K h0) i 0 (n - 2 + 1) + (if PP n K h0 (n - 2) = i then 1 else 0) = 0 := by rw [z, if_neg (fun y => q y.symm)]
              omega
            · have := j2 (by omega) (by omega); omega
        have := (hub n 0 0 (by omega)).2 (Nat.zero_le _) (by omega)
        omega
      · obtain ⟨t, _, h3, h4⟩ := ck_ex (GG n K h0) (n - 2 + 1) 0 z
        exact ⟨t, by omega, h4⟩
end PRU
