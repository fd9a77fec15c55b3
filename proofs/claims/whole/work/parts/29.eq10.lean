/-! joined, way, spread, grow -/
theorem ic_M {n : Nat} (h2 : 2 ≤ n) (h6 : n ≤ 6) (c : Int32) : icV n c = icM n c := by
  have b1 := cmV_pos h2 h6
  have b2 := cmV_le h6
  unfold icV icM mnV
  by_cases h : c < 0
  · rw [if_pos h, if_pos h]
  · rw [if_neg h, if_neg h]
    obtain ⟨j, hj, rfl⟩ := nI_of h
    by_cases q : cmV n ≤ j
    · rw [if_pos (nI_le q hj), if_pos (nI_lt (by omega) hj)]
    · rw [if_neg (nI_ge (by omega) (by omega)), if_neg (nI_nlt (by omega) (by omega))]
theorem ic_lt {n : Nat} (h2 : 2 ≤ n) (h6 : n ≤ 6) {c : Int32} (h : ¬ icM n c = 0) : c = nI (tn c) ∧ tn c < cmV n := icM_tn h6 h2 h
section TRE
variable {n : Nat} {d : Nat → Nat → Int32} {t : Nat → Int32} {D : Nat → Nat → Nat}
theorem asA01 : asA 0 = 0 ∧ asA 1 = 1 := ⟨rfl, rfl⟩
theorem eq_joined (h : Rl n d t D) (go ke ha jd jn : Nat → Int32) (c x y : Int32) : jdR n go ke ha c x y = mjR n jd jn c x y := by
  have h2 := h.1.1
  have h6 := h.1.2
  unfold jdR mjR
  rw [ic_M h2 h6, kn2_M h2 h6]
  by_cases q : icM n c = 0
  · rw [if_pos q, if_pos q]
  · rw [if_neg q, if_neg q]
    by_cases q1 : knM n x = 0
    · rw [if_pos q1, if_pos q1]
    · rw [if_neg q1, if_neg q1]
      by_cases q2 : knM n y = 0
      · rw [if_pos q2, if_pos q2]
      · rw [if_neg q2, if_neg q2]
        obtain ⟨ex, ax⟩ := knM_tn h6 h2 q1
        obtain ⟨ey, ay⟩ := knM_tn h6 h2 q2
        obtain ⟨j1, j2⟩ := jn_at h2 h6 (tn c) (go := rdG n (tn c) go ke ha) (ke := rdK n (tn c) ke ha) (fun s hs => by rw [rdG_n hs, Gn_T h2 h6]) (fun s hs => by rw [rdK_n hs, Kn_T h2 h6]) ax ay
        obtain ⟨m1, m2⟩ := mlD_at h2 h6 (tn c) jd jn ax ay
        rw [← ex, ← ey] at j1 j2
        by_cases e : Ed n (tn c) (tn x) (tn y)
        · rw [j1 e, m1 e]; rfl
        · rw [j2 e, m2 e]; rfl
theorem eq_way (h : Rl n d t D) (ke ha : Nat → Int32) (wy : Nat → Nat → Int32) (jd jn wm : Nat → Int32) (c x y : Int32) : wyR n d ke ha wy c x y = mwR n t jd jn wm c x y := by
  have h2 := h.1.1
  have h6 := h.1.2
  unfold wyR mwR
  rw [ic_M h2 h6, kn2_M h2 h6]
  by_cases q : icM n c = 0
  · rw [if_pos q, if_pos q]
  · rw [if_neg q, if_neg q]
    by_cases q1 : knM n x = 0
    · rw [if_pos q1, if_pos q1]
    · rw [if_neg q1, if_neg q1]
      by_cases q2 : knM n y = 0
      · rw [if_pos q2, if_pos q2]
      · rw [if_neg q2, if_neg q2]
        obtain ⟨_, ax⟩ := knM_tn h6 h2 q1
        obtain ⟨_, ay⟩ := knM_tn h6 h2 q2
        obtain ⟨w, hw, _⟩ := ways_eq h (cd := tn c) ke ha wy jd jn wm
        exact (hw _ _ ax ay).1.trans (hw _ _ ax ay).2.symm
abbrev WE (n : Nat) (W : Nat → Nat → Int32) (M : Nat → Int32) (w : Nat → Nat → Nat) : Prop := ∀ i j, i < n → j < n → W i j = nI (w i j) ∧ M (6 * i + j) = nI (w i j)
theorem su_mp {W : Nat → Nat → Int32} {M : Nat → Int32} {w : Nat → Nat → Nat} (hw : WE n W M w) : suV n W = mpV n M := by
  unfold suV mpV
  refine lp_congr n 0 0 (fun i a _ hi => ?_)
  unfold mpO
  refine lp_congr _ _ _ (fun j a hj0 hj => ?_)
  unfold mpI
  rw [(hw i j (by omega) (by omega)).1, (hw i j (by omega) (by omega)).2]
theorem eq_spread (h : Rl n d t D) (ke ha : Nat → Int32) (wy : Nat → Nat → Int32) (jd jn wm : Nat → Int32) (c : Int32) : spR n (LW n d ke ha wy c) c = mqR n (mgo n t jd jn wm (tn c)) c := by
  unfold spR mqR
  rw [ic_M h.1.1 h.1.2]
  obtain ⟨w, hw, _⟩ := ways_eq h (cd := tn c) ke ha wy jd jn wm
  rw [su_mp (W := LW n d ke ha wy c) hw]
def goN (n : Nat) (w : Nat → Nat → Nat) : Nat := lp (fun A i => lp (fun A j => max A (w i j)) (i + 1) (n - (i + 1)) A) 0 n 0
theorem go_N {W : Nat → Nat → Int32} {w : Nat → Nat → Nat} (hw : ∀ i j, i < n → j < n → W i j = nI (w i j)) (hb : ∀ i j, i < n → j < n → w i j ≤ 5000) : goV n W = nI (goN n w) ∧ goN n w ≤ 5000 := by
  unfold goV goN
  refine lp_rel (fun (a : Int32) (A : Nat) => a = nI A ∧ A ≤ 5000) n 0 0 0 (fun i a A _ hi hr => ?_) ⟨rfl, by omega⟩
  refine lp_rel (fun (a : Int32) (A : Nat) => a = nI A ∧ A ≤ 5000) _ _ a A (fun j a A hj0 hj hr => ?_) hr
  obtain ⟨rfl, h5⟩ := hr
  have h1 := hb i j (by omega) (by omega)
  refine ⟨?_, by show max A (w i j) ≤ 5000; omega⟩
  show mx (nI A) (W i j) = nI (max A (w i j))
  rw [mx_grt, hw i j (by omega) (by omega), grt_nI (by omega) (by omega)]
theorem goN_le {w : Nat → Nat → Nat} (hs : ∀ i j, i < n → j < n → w i j = w j i) (h0 : ∀ i, i < n → w i i = 0) : goN n w ≤ 1000 ↔ ∀ i j, i < n → j < n → w i j ≤ 1000 := by
  unfold goN
  rw [gap_nat hs h0]
  constructor
  · intro hq i j hi hj
    refine Nat.le_trans ?_ hq
    exact lp_hit (fun A k => lp_ge (f := fun A j => max A (w k j)) (fun A k => Nat.le_max_left _ _) _ _ _) (k0 := i) (fun A => lp_hit (f := fun A j => max A (w i j)) (fun A k => Nat.le_max_left _ _) (k0 := j) (fun A => Nat.le_max_right _ _) n 0 A (Nat.zero_le _) (by omega)) n 0 0 (Nat.zero_le _) (by omega)
  · intro hq
    exact lp_ub n 0 0 (fun A i _ hi hA => lp_ub _ _ _ (fun A j _ hj hA => Nat.max_le.mpr ⟨hA, hq i j (by omega) (by omega)⟩) hA) (by omega)
def ggQ (n : Nat) (M : Nat → Int32) (w : Nat → Nat → Nat) (i j : Nat) (p : Int32 × (Nat → Int32)) : Prop := (p.1 = 0 ∨ p.1 = 1) ∧ (¬ p.1 = 0 ↔ ∀ a b, b < n → (a < i ∨ (a = i ∧ b < j)) → w a b ≤ 1000) ∧ ∀ a b, b < n → (a < i ∨ (a = i ∧ b < j)) → p.2 (6 * a + b) = M (6 * a + b)
theorem gg_all (h6 : n ≤ 6) {M : Nat → Int32} {w : Nat → Nat → Nat} (hw : ∀ i j, i < n → j < n → M (6 * i + j) = nI (w i j)) (hb : ∀ i j, i < n → j < n → w i j ≤ 5000) (md : Nat → Int32) : ggQ n M w n 0 (ggV n M md) := by
  have key := lp_ix (fun i (p : Int32 × (Nat → Int32)) => ggQ n M w i 0 p) (f := ggO n M) n 0 (1, md) (fun i p _ hi hp => by
    have inner := lp_ix (fun j (p : Int32 × (Nat → Int32)) => ggQ n M w i j p) (f := ggI M i) n 0 p (fun j p _ hj hp => by
      obtain ⟨p1, p2, p3⟩ := hp
      have hbj := hb i j (by omega) (by omega)
      have hd : (1000 < M (6 * i + j)) ↔ 1000 < w i j := by
        rw [hw i j (by omega) (by omega)]
        exact nI_ltI (a := 1000) (b := w i j) (by decide) (by omega)
      refine ⟨?_, ?_, fun a b hb1 hab => ?_⟩
      · show (if p.1 = 0 then (0 : Int32) else if 1000 < M (6 * i + j) then 0 else 1) = 0 ∨ (if p.1 = 0 then (0 : Int32) else if 1000 < M (6 * i + j) then 0 else 1) = 1
        split
        · exact Or.inl rfl
        · split
          · exact Or.inl rfl
          · exact Or.inr rfl
      · show ¬ (if p.1 = 0 then (0 : Int32) else if 1000 < M (6 * i + j) then 0 else 1) = 0 ↔ _
        by_cases e : p.1 = 0
        · rw [if_pos e]
          refine ⟨fun q => absurd rfl q, fun q => absurd e (p2.mpr (fun a b hb1 hab => q a b hb1 (by omega)))⟩
        · rw [if_neg e]
          have p2' := p2.mp e
          by_cases e2 : 1000 < w i j
          · rw [if_pos (hd.mpr e2)]
            refine ⟨fun q => absurd rfl q, fun q => ?_⟩
            have := q i j (by omega) (Or.inr ⟨rfl, by omega⟩)
            omega
          · rw [if_neg (fun q => e2 (hd.mp q))]
            refine ⟨fun _ a b hb1 hab => ?_, fun _ => n10⟩
            by_cases e3 : a = i ∧ b = j
            · rw [e3.1, e3.2]; omega
            · exact p2' a b hb1 (by omega)
      · show upd p.2 (6 * i + j) (M (6 * i + j)) (6 * a + b) = _
        unfold upd
        by_cases e3 : a = i ∧ b = j
        · rw [if_pos (by omega), e3.1, e3.2]
        · rw [if_neg (by omega)]; exact p3 a b hb1 (by omega)) hp
    obtain ⟨q1, q2, q3⟩ := inner
    refine ⟨q1, q2.trans ⟨fun q a b hb1 hab => q a b hb1 (by omega), fun q a b hb1 hab => q a b hb1 (by omega)⟩, fun a b hb1 hab => q3 a b hb1 (by omega)⟩) ⟨Or.inr rfl, ⟨fun _ a b _ hab => absurd hab (by omega), fun _ => n10⟩, fun a b _ hab => absurd hab (by omega)⟩
  rw [Nat.zero_add] at key
  exact key
theorem eq_grow (h : Rl n d t D) (ke ha : Nat → Int32) (wy : Nat → Nat → Int32) (jd jn wm md : Nat → Int32) (c : Int32) : gwR n d (LW n d ke ha wy c) c = mwG n t (mgo n t jd jn wm (tn c)) md c ∧ ∃ D', Rl n (gwD n d (LW n d ke ha wy c) c) (mwT n t (mgo n t jd jn wm (tn c)) md c) D' := by
  have h6 := h.1.2
  unfold gwR mwG gwD mwT
  rw [ic_M h.1.1 h.1.2]
  by_cases q : icM n c = 0
  · simp only [if_pos q]; exact ⟨trivial, D, h⟩
  · simp only [if_neg q]
    obtain ⟨w, hw, w1, w2, w3, w4, _⟩ := ways_eq h (cd := tn c) ke ha wy jd jn wm
    obtain ⟨g1, g2⟩ := go_N (W := LW n d ke ha wy c) (fun i j hi hj => (hw i j hi hj).1) w4
    obtain ⟨k1, k2, k3⟩ := gg_all h6 (M := mgo n t jd jn wm (tn c)) (fun i j hi hj => (hw i j hi hj).2) w4 md
    rw [g1]
    have hg := goN_le w1 w2
    by_cases e : ∀ i j, i < n → j < n → w i j ≤ 1000
    · have e1 : nI (goN n w) ≤ 1000 := nI_le (hg.mpr e) (by decide)
      have e2 := k2.mpr (fun a b hb hab => e a b (by omega) hb)
      simp only [if_pos e1, if_neg e2]
      exact eq_become h (C := w) (fun i j hi hj hij => ⟨(hw i j hi hj).1, (k3 i j hj (by omega)).trans (hw i j hi hj).2, w3 i j hi hj (by omega), e i j hi hj⟩)
    · have e1 : ¬ nI (goN n w) ≤ 1000 := fun z => e (hg.mp ((nI_leI (a := goN n w) (b := 1000) (by omega) (by decide)).mp z))
      have e2 : (ggV n (mgo n t jd jn wm (tn c)) md).1 = 0 := by
        rcases k1 with k1 | k1
        · exact k1
        · exact absurd (fun i j hi hj => k2.mp (by rw [k1]; exact n10) i j hj (by omega)) e
      simp only [if_neg e1, if_pos e2]
      exact ⟨trivial, D, h⟩
end TRE
