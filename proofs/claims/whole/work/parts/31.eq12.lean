/-! best -/
theorem ratio_iff {la lb A B a b A' B' : Nat} (h1 : la * B = A * lb) (h2 : a * B' = A' * b) (hlb : 1 ≤ lb) (hB : 1 ≤ B) (hb : 1 ≤ b) (hB' : 1 ≤ B') : la * b ≤ a * lb ↔ A * B' ≤ A' * B := by
  have p1 : 0 < B * B' := Nat.mul_pos hB hB'
  have p2 : 0 < lb * b := Nat.mul_pos hlb hb
  have e1 : la * b * (B * B') = A * B' * (lb * b) := by
    rw [show la * b * (B * B') = (la * B) * (b * B') by ac_rfl, h1]; ac_rfl
  have e2 : a * lb * (B * B') = A' * B * (lb * b) := by
    rw [show a * lb * (B * B') = (a * B') * (lb * B) by ac_rfl, h2]; ac_rfl
  constructor
  · intro h
    have := Nat.mul_le_mul_right (B * B') h
    rw [e1, e2] at this
    exact Nat.le_of_mul_le_mul_right this p2
  · intro h
    have := Nat.mul_le_mul_right (lb * b) h
    rw [← e1, ← e2] at this
    exact Nat.le_of_mul_le_mul_right this p1
theorem nI_nm {k : Nat} (h : k < 2 ^ 31) : ¬ nI k = -1 := fun e => by
  have := nI_pos (n := k) h
  rw [e] at this
  exact this (by decide)
section BST
variable {n : Nat} {d : Nat → Nat → Int32} {t : Nat → Int32} {D : Nat → Nat → Nat}
def BR (n : Nat) (k : Nat) (c : Int32 × Int32 × Int32 × Int32 × Int32 × Sc) (m : BA) : Prop := (k = 0 → m.1 = -1) ∧ (0 < k → (∃ j, j < cmV n ∧ c.1 = nI j ∧ m.1 = nI j) ∧ ∃ la lb A B, (c.2.1 = nI la ∧ c.2.2.1 = nI lb) ∧ (m.2.1 = lN A ∧ m.2.2.1 = lN B) ∧ ((1 ≤ la ∧ la ≤ 5000) ∧ 1 ≤ lb ∧ lb ≤ 1000) ∧ ((1 ≤ A ∧ A ≤ 5000) ∧ 1 ≤ B ∧ B ≤ 1000) ∧ la * B = A * lb)
theorem best0 (h : Rl n d t D) (ab be : Int32) (ab' be' : Int64) (z : Sc) (z' : MSc) : (bsV n d ab be z).1 = (bmV n t 0 ab' be' z').1 := by
  have h6 := h.1.2
  have c1 := cmV_pos h.1.1 h6
  have c2 := cmV_le h6
  have key : BR n (0 + cmV n) (bsV n d ab be z) (bmV n t 0 ab' be' z') := by
    unfold bsV bmV
    refine lp_rix (BR n) (cmV n) 0 _ _ (fun k c m _ hk hr => ?_) ⟨fun _ => rfl, fun q => absurd q (by omega)⟩
    obtain ⟨w, hw, _, _, _, w4, w5⟩ := ways_eq h (cd := k) c.2.2.2.2.2.2.1 c.2.2.2.2.2.2.2.1 c.2.2.2.2.2.2.2.2 m.2.2.2.2.2.1 m.2.2.2.2.2.2.1 m.2.2.2.2.2.2.2
    obtain ⟨a, b, A, B, ⟨e1, e2⟩, ⟨⟨a1, a2⟩, b1, b2⟩, ⟨⟨A1, A2⟩, B1, B2⟩, hc⟩ := fs_ms h hw w4 w5
    have rt : a * B = A * b := by
      rcases hc with ⟨rfl, rfl⟩ | ⟨rfl, rfl, rfl⟩
      · rfl
      · rw [Nat.one_mul, Nat.mul_one]
    have e1 : fsV n d (laS n d c.2.2.2.2.2 k).2.2.2 = (nI a, nI b) := e1
    have e2 : msV n t (mgS n t m.2.2.2.2.2 k).2.2 = (lN A, lN B) := e2
    have step : ∀ (cc : Int32 × Int32 × Int32 × Int32 × Int32 × Sc) (mm : BA), cc.1 = nI k → cc.2.1 = nI a → cc.2.2.1 = nI b → mm.1 = nI k → mm.2.1 = lN A → mm.2.2.1 = lN B → BR n (k + 1) cc mm := fun cc mm q1 q2 q3 q4 q5 q6 => ⟨fun q => absurd q (by omega), fun _ => ⟨⟨k, by omega, q1, q4⟩, a, b, A, B, ⟨q2, q3⟩, ⟨q5, q6⟩, ⟨⟨a1, a2⟩, b1, b2⟩, ⟨⟨A1, A2⟩, B1, B2⟩, rt⟩⟩
    unfold bsF bmF
    rw [if_pos (show (0 : Int32) = 0 from rfl), e1, e2]
    by_cases k0 : k = 0
    · have m1 := hr.1 k0
      have kk : nI k = 0 := by rw [k0]; rfl
      rw [if_pos kk, if_pos m1]
      exact step _ _ rfl rfl rfl rfl rfl rfl
    · obtain ⟨⟨j, j1, j2, j3⟩, la, lb, A0, B0, ⟨f1, f2⟩, ⟨f3, f4⟩, ⟨⟨l1, l2⟩, l3, l4⟩, ⟨⟨L1, L2⟩, L3, L4⟩, r0⟩ := hr.2 (by omega)
      have cond := ratio_iff r0 rt l3 L3 b1 B1
      have m1 : ¬ m.1 = -1 := by rw [j3]; exact nI_nm (by omega)
      rw [if_neg (show ¬ nI k = 0 from nI_ne0 (by omega) (by omega)), if_neg m1, f1, f2, f3, f4]
      simp only [pk_mul, lN_mul]
      by_cases e : la * b ≤ a * lb
      · rw [if_pos ((nI_leI (m25 l2 (by omega)) (m25 a2 (by omega))).mpr e), if_pos ((lg_le (m25 A2 (by omega)) (m25 L2 (by omega))).2.mpr (cond.mp e))]
        exact ⟨fun q => absurd q (by omega), fun _ => ⟨⟨j, j1, j2, j3⟩, la, lb, A0, B0, ⟨rfl, rfl⟩, ⟨f3, f4⟩, ⟨⟨l1, l2⟩, l3, l4⟩, ⟨⟨L1, L2⟩, L3, L4⟩, r0⟩⟩
      · rw [if_neg (fun q => e ((nI_leI (m25 l2 (by omega)) (m25 a2 (by omega))).mp q)), if_neg (fun q => e (cond.mpr ((lg_le (m25 A2 (by omega)) (m25 L2 (by omega))).2.mp q)))]
        exact step _ _ rfl rfl rfl rfl rfl rfl
  obtain ⟨⟨j, _, j2, j3⟩, _⟩ := key.2 (by omega)
  rw [j2, j3]
theorem su_N (h6 : n ≤ 6) {W : Nat → Nat → Int32} {w : Nat → Nat → Nat} (hw : ∀ i j, i < n → j < n → W i j = nI (w i j)) (hb : ∀ i j, i < n → j < n → w i j ≤ 5000) : ∃ s, suV n W = nI s ∧ s ≤ 180000 := by
  have key := lp_ix (fun i (a : Int32) => ∃ s, a = nI s ∧ s ≤ 30000 * i) (f := fun a i => lp (fun a j => a + W i j) (i + 1) (n - (i + 1)) a) n 0 0 (fun i a _ hi hp => by
    obtain ⟨s, e, hs⟩ := hp
    have inner := lp_ix (fun j (a : Int32) => ∃ s, a = nI s ∧ s ≤ 30000 * i + 5000 * j) (f := fun a j => a + W i j) (n - (i + 1)) (i + 1) a (fun j a hj0 hj hp => by
      obtain ⟨s, e, hs⟩ := hp
      have := hb i j (by omega) (by omega)
      exact ⟨s + w i j, by rw [e, hw i j (by omega) (by omega), nI_add], by omega⟩) ⟨s, e, by omega⟩
    obtain ⟨s2, e2, hs2⟩ := inner
    exact ⟨s2, e2, by omega⟩) ⟨0, rfl, Nat.zero_le _⟩
  obtain ⟨s, e, hs⟩ := key
  exact ⟨s, e, by omega⟩
def BP (n : Nat) (k : Nat) (c : Int32 × Int32 × Sc) (m : BA) : Prop := (k = 0 → m.1 = -1) ∧ (0 < k → (∃ j, j < cmV n ∧ c.1 = nI j ∧ m.1 = nI j) ∧ ∃ s, c.2.1 = nI s ∧ m.2.1 = lN s ∧ m.2.2.1 = 1 ∧ s ≤ 180000)
theorem best1 (h : Rl n d t D) (ab' be' : Int64) (z : Sc) (z' : MSc) : (bpV n d z).1 = (bmV n t 1 ab' be' z').1 := by
  have h6 := h.1.2
  have c1 := cmV_pos h.1.1 h6
  have c2 := cmV_le h6
  have key : BP n (0 + cmV n) (bpV n d z) (bmV n t 1 ab' be' z') := by
    unfold bpV bmV
    refine lp_rix (BP n) (cmV n) 0 _ _ (fun k c m _ hk hr => ?_) ⟨fun _ => rfl, fun q => absurd q (by omega)⟩
    obtain ⟨w, hw, _, _, _, w4, _⟩ := ways_eq h (cd := k) c.2.2.2.1 c.2.2.2.2.1 c.2.2.2.2.2 m.2.2.2.2.2.1 m.2.2.2.2.2.2.1 m.2.2.2.2.2.2.2
    have e1 : suV n (laS n d c.2.2 k).2.2.2 = mpV n (mgS n t m.2.2.2.2.2 k).2.2 := su_mp hw
    obtain ⟨s, hs, hs2⟩ : ∃ s, suV n (laS n d c.2.2 k).2.2.2 = nI s ∧ s ≤ 180000 := su_N h6 (fun i j hi hj => (hw i j hi hj).1) w4
    have step : ∀ (cc : Int32 × Int32 × Sc) (mm : BA), cc.1 = nI k → cc.2.1 = nI s → mm.1 = nI k → mm.2.1 = lN s → mm.2.2.1 = 1 → BP n (k + 1) cc mm := fun cc mm q1 q2 q4 q5 q6 => ⟨fun q => absurd q (by omega), fun _ => ⟨⟨k, by omega, q1, q4⟩, s, q2, q5, q6, hs2⟩⟩
    unfold bpF bmF
    rw [if_neg n10, ← e1, hs]
    have el : (nI s).toInt64 = lN s := nI_l (by omega)
    rw [el]
    by_cases k0 : k = 0
    · have m1 := hr.1 k0
      have kk : nI k = 0 := by rw [k0]; rfl
      rw [if_pos kk, if_pos m1]
      exact step _ _ rfl rfl rfl rfl rfl
    · obtain ⟨⟨j, j1, j2, j3⟩, s0, f1, f2, f3, f4⟩ := hr.2 (by omega)
      have m1 : ¬ m.1 = -1 := by rw [j3]; exact nI_nm (by omega)
      have one : (1 : Int64) = lN 1 := rfl
      rw [if_neg (show ¬ nI k = 0 from nI_ne0 (by omega) (by omega)), if_neg m1, f1, f2, f3, one]
      simp only [lN_mul, Nat.mul_one]
      by_cases e : s0 ≤ s
      · rw [if_pos ((nI_leI (by omega) (by omega)).mpr e), if_pos ((lg_le (by omega) (by omega)).2.mpr e)]
        exact ⟨fun q => absurd q (by omega), fun _ => ⟨⟨j, j1, j2, j3⟩, s0, rfl, f2, f3, f4⟩⟩
      · rw [if_neg (fun q => e ((nI_leI (by omega) (by omega)).mp q)), if_neg (fun q => e ((lg_le (by omega) (by omega)).2.mp q))]
        exact step _ _ rfl rfl rfl rfl rfl
  obtain ⟨⟨j, _, j2, j3⟩, _⟩ := key.2 (by omega)
  rw [j2, j3]
theorem eq_best (h : Rl n d t D) (ab be : Int32) (ab' be' : Int64) (z : Sc) (z' : MSc) (w : Int32) {s : Nat} (hs : s ≤ 60) : btR w (nI s) (bsV n d ab be z).1 (bpV n d z).1 = mbR w (nI s) (bmV n t w ab' be' z').1 ∧ ∃ s', s' ≤ 60 ∧ bt3 w (nI s) (nI s) (nI s + 1) (nI s + 1) = nI s' ∧ mb2 w (nI s) (nI s) (nI s + 1) = nI s' := by
  have lt : nI s < 60 ↔ s < 60 := nI_ltI (a := s) (b := 60) (by omega) (by decide)
  have eq : nI s = 60 ↔ s = 60 := nI_eq (a := s) (b := 60) (by omega) (by decide)
  unfold btR mbR bt3 mb2
  rcases w2 w with ⟨rfl, q⟩ | ⟨rfl, q⟩ | ⟨q0, q1, q⟩
  · simp only [if_neg q, if_pos (show (0 : Int32) = 0 from rfl)]
    by_cases e : s < 60
    · simp only [if_pos (lt.mpr e), if_neg (fun z => by have := eq.mp z; omega : ¬ nI s = 60)]
      exact ⟨best0 h _ _ _ _ _ _, s + 1, by omega, nI_1 s, nI_1 s⟩
    · simp only [if_neg (fun z => e (lt.mp z)), if_pos (eq.mpr (by omega))]
      refine ⟨?_, s, hs, ?_, ?_⟩ <;> simp
  · simp only [if_neg q, if_neg n10, if_pos (show (1 : Int32) = 1 from rfl)]
    by_cases e : s < 60
    · simp only [if_pos (lt.mpr e), if_neg (fun z => by have := eq.mp z; omega : ¬ nI s = 60)]
      exact ⟨best1 h _ _ _ _, s + 1, by omega, nI_1 s, nI_1 s⟩
    · simp only [if_neg (fun z => e (lt.mp z)), if_pos (eq.mpr (by omega))]
      refine ⟨?_, s, hs, ?_, ?_⟩ <;> simp
  · simp only [if_neg q0, if_neg q1, if_pos q]
    refine ⟨?_, s, hs, ?_, ?_⟩ <;> simp
end BST
