/-! parts: bits of numbers below 64, each by trial -/
set_option maxRecDepth 100000 in
theorem bit_01 : ∀ X, X < 64 → ∀ i, i < 6 → iiV (nI X) (nI i) = 0 ∨ iiV (nI X) (nI i) = 1 := by decide +kernel
set_option maxRecDepth 100000 in
theorem bit_and : ∀ X, X < 64 → ∀ i, i < 6 → ∀ j, j < 6 → ((shr (nI X) i &&& shr (nI X) j) &&& 1 = 1 ↔ (iiV (nI X) (nI i) = 1 ∧ iiV (nI X) (nI j) = 1)) := by decide +kernel
set_option maxRecDepth 100000 in
theorem bit_or : ∀ X, X < 64 → ∀ i, i < 6 → ∀ j, j < 6 → ((shr (nI X) i ||| shr (nI X) j) &&& 1 = 0 ↔ (iiV (nI X) (nI i) = 0 ∧ iiV (nI X) (nI j) = 0)) := by decide +kernel
set_option maxRecDepth 100000 in
theorem bit_xor : ∀ X, X < 64 → ∀ i, i < 6 → ∀ j, j < 6 → ((shr (nI X) i ^^^ shr (nI X) j) &&& 1 = 1 ↔ ¬ iiV (nI X) (nI i) = iiV (nI X) (nI j)) := by decide +kernel
set_option maxRecDepth 100000 in
theorem bit_odd : ∀ X, X < 64 → X % 2 = 1 → iiV (nI X) (nI 0) = 1 := by decide +kernel
set_option maxRecDepth 100000 in
theorem bit_out : ∀ n, n < 7 → 2 ≤ n → ∀ X, X < 2 ^ n - 1 → ∃ k, k < n ∧ iiV (nI X) (nI k) = 0 := by decide +kernel
/-- least values -/
theorem lq_le {f : Nat → Nat → Nat} (hf : ∀ A k, f A k ≤ A) : ∀ (c i A : Nat), lp f i c A ≤ A := by
  intro c
  induction c with
  | zero => intro i A; exact Nat.le_refl _
  | succ c ih => intro i A; exact Nat.le_trans (ih (i + 1) (f A i)) (hf A i)
theorem lq_hit {f : Nat → Nat → Nat} (hf : ∀ A k, f A k ≤ A) {B k0 : Nat} (hB : ∀ A, f A k0 ≤ B) : ∀ (c i A : Nat), i ≤ k0 → k0 < i + c → lp f i c A ≤ B := by
  intro c
  induction c with
  | zero => intro i A h1 h2; omega
  | succ c ih =>
    intro i A h1 h2
    by_cases e : i = k0
    · subst e; exact Nat.le_trans (lq_le hf c (i + 1) (f A i)) (hB A)
    · exact ih (i + 1) (f A i) (by omega) (by omega)
theorem lq_lin {f : Nat → Nat → Nat} (hf : ∀ A B k, f (min A B) k = min (f A k) B) : ∀ (c i A B : Nat), lp f i c (min A B) = min (lp f i c A) B := by
  intro c
  induction c with
  | zero => intro i A B; rfl
  | succ c ih => intro i A B; rw [lp_s, lp_s, hf, ih]
section EQW
variable {n : Nat} {d : Nat → Nat → Int32} {t : Nat → Int32} {D : Nat → Nat → Nat}
/-- the number that a WEIGHT is the least of -/
def vN (D : Nat → Nat → Nat) (i j k q : Nat) : Nat := max (D i j + D k q) (max (D i k + D j q) (D i q + D j k)) - (D i j + D k q)
theorem ac_N (h : Rl n d t D) {i j k q : Nat} (hi : i < 6) (hj : j < 6) (hk : k < 6) (hq : q < 6) : acV d i j k q = nI (vN D i j k q) ∧ afm t i j k q - t (6 * i + j) - t (6 * k + q) = nI (vN D i j k q) ∧ vN D i j k q ≤ 2000 := by
  have a1 := h.le hi hj
  have a2 := h.le hk hq
  have a3 := h.le hi hk
  have a4 := h.le hj hq
  have a5 := h.le hi hq
  have a6 := h.le hj hk
  have e : ∀ {x y : Nat}, x ≤ 2000 → y ≤ 2000 → mx (nI x) (nI y) = nI (max x y) := fun hx hy => by rw [mx_grt]; exact grt_nI (by omega) (by omega)
  have k1 : acV d i j k q = nI (vN D i j k q) := by
    unfold acV vN
    rw [(h.2.1 i j hi hj).1, (h.2.1 k q hk hq).1, (h.2.1 i k hi hk).1, (h.2.1 j q hj hq).1, (h.2.1 i q hi hq).1, (h.2.1 j k hj hk).1, nI_add, nI_add, nI_add, e (by omega) (by omega), e (by omega) (by omega)]
    exact pk_sub (by omega)
  refine ⟨k1, ?_, by unfold vN; omega⟩
  rw [← k1]
  unfold acV
  simp only [afm, af1, h.td hi hj, h.td hk hq, h.td hi hk, h.td hj hq, h.td hi hq, h.td hj hk, mx_grt]
  rw [Int32.sub_eq_add_neg, Int32.sub_eq_add_neg, Int32.sub_eq_add_neg, Int32.neg_add, Int32.add_assoc, Int32.sub_eq_add_neg]
def kqN (n : Nat) (D : Nat → Nat → Nat) (x : Int32) (i j : Nat) (A k : Nat) : Nat := lp (fun A q => if iiV x (nI k) = 0 ∧ iiV x (nI q) = 0 then min A (vN D i j k q) else A) k (n - k) A
def ijN (n : Nat) (D : Nat → Nat → Nat) (x : Int32) (i : Nat) (A j : Nat) : Nat := if iiV x (nI i) = 1 ∧ iiV x (nI j) = 1 then lp (kqN n D x i j) 0 n A else A
def wN (n : Nat) (D : Nat → Nat → Nat) (x : Int32) (A : Nat) : Nat := lp (fun A i => lp (ijN n D x i) i (n - i) A) 0 n A
theorem kq_lin (x : Int32) (i j : Nat) : ∀ A B k, kqN n D x i j (min A B) k = min (kqN n D x i j A k) B := fun A B k => lq_lin (fun A B q => by
  split
  · omega
  · rfl) _ _ A B
theorem ij_lin (x : Int32) (i : Nat) : ∀ A B j, ijN n D x i (min A B) j = min (ijN n D x i A j) B := fun A B j => by
  unfold ijN
  split
  · exact lq_lin (kq_lin x i j) n 0 A B
  · rfl
theorem w_lin (x : Int32) (A B : Nat) : wN n D x (min A B) = min (wN n D x A) B := lq_lin (fun A B i => lq_lin (ij_lin x i) _ _ A B) n 0 A B
theorem mnN {a b : Nat} (ha : a < 2 ^ 31) (hb : b < 2 ^ 31) : mn (nI a) (nI b) = nI (min a b) := by rw [mn_le]; exact nI_min ha hb
theorem we_N (h : Rl n d t D) {X : Nat} (hX : X < 64) : weV n d (nI X) = nI (wN n D (nI X) 2000) := by
  have h6 := h.1.2
  have la : ∀ i j, i < n → j < n → laV n d (nI X) i j = nI (lp (kqN n D (nI X) i j) 0 n 2000) := fun i j hi hj => by
    unfold laV
    refine (lp_rel (fun (a : Int32) (A : Nat) => a = nI A ∧ A ≤ 2000) n 0 2000 2000 (fun k a A _ hk hr => ?_) ⟨rfl, Nat.le_refl _⟩).1
    unfold laO kqN
    refine lp_rel (fun (a : Int32) (A : Nat) => a = nI A ∧ A ≤ 2000) _ _ a A (fun q a A _ hq hr => ?_) hr
    obtain ⟨rfl, hA⟩ := hr
    obtain ⟨e1, _, e3⟩ := ac_N h (i := i) (j := j) (k := k) (q := q) (by omega) (by omega) (by omega) (by omega)
    unfold laI
    by_cases b1 : iiV (nI X) (nI k) = 0
    · by_cases b2 : iiV (nI X) (nI q) = 0
      · rw [if_pos b1, if_pos b2, if_pos ⟨b1, b2⟩, e1, mnN (by omega) (by omega)]; exact ⟨rfl, by omega⟩
      · rw [if_pos b1, if_neg b2, if_neg (fun q9 => b2 q9.2)]; exact ⟨rfl, hA⟩
    · rw [if_neg b1, if_neg (fun q9 => b1 q9.1)]; exact ⟨rfl, hA⟩
  unfold weV wN
  refine (lp_rel (fun (a : Int32) (A : Nat) => a = nI A ∧ A ≤ 2000) n 0 2000 2000 (fun i a A _ hi hr => ?_) ⟨rfl, Nat.le_refl _⟩).1
  unfold weO
  refine lp_rel (fun (a : Int32) (A : Nat) => a = nI A ∧ A ≤ 2000) _ _ a A (fun j a A hj0 hj hr => ?_) hr
  obtain ⟨rfl, hA⟩ := hr
  have b1 := bit_01 X hX i (by omega)
  have b2 := bit_01 X hX j (by omega)
  unfold weI ijN
  rcases b1 with b1 | b1
  · rw [if_pos b1, if_neg (fun q9 => by rw [b1] at q9; exact absurd q9.1 (by decide))]; exact ⟨rfl, hA⟩
  · rw [if_neg (by rw [b1]; decide)]
    rcases b2 with b2 | b2
    · rw [if_pos b2, if_neg (fun q9 => by rw [b2] at q9; exact absurd q9.2 (by decide))]; exact ⟨rfl, hA⟩
    · rw [if_neg (by rw [b2]; decide), if_pos ⟨b1, b2⟩, la i j (by omega) (by omega)]
      have hle : lp (kqN n D (nI X) i j) 0 n 2000 ≤ 2000 := lq_le (fun A k => lq_le (fun A q => by split <;> omega) _ _ _) _ _ _
      rw [mnN (by omega) (by omega), Nat.min_comm, ← lq_lin (kq_lin (nI X) i j) n 0 2000 A, Nat.min_eq_right hA]
      exact ⟨rfl, Nat.le_trans (lq_le (fun A k => lq_le (fun A q => by split <;> omega) _ _ _) _ _ _) hA⟩
theorem wf_N (h : Rl n d t D) {X : Nat} (hX : X < 64) : wfV n t (nI X) = nI (wN n D (nI X) 1000000) := by
  have h6 := h.1.2
  unfold wfV wN
  refine (lp_rel (fun (a : Int32) (A : Nat) => a = nI A ∧ A ≤ 1000000) n 0 1000000 1000000 (fun i a A _ hi hr => ?_) ⟨rfl, Nat.le_refl _⟩).1
  unfold wfI
  refine lp_rel (fun (a : Int32) (A : Nat) => a = nI A ∧ A ≤ 1000000) _ _ a A (fun j a A hj0 hj hr => ?_) hr
  unfold wfJ ijN
  have band := bit_and X hX i (by omega) j (by omega)
  by_cases b : iiV (nI X) (nI i) = 1 ∧ iiV (nI X) (nI j) = 1
  · rw [if_pos b]
    refine lp_rel (fun (a : Int32) (A : Nat) => a = nI A ∧ A ≤ 1000000) n 0 a A (fun k a A _ hk hr => ?_) hr
    unfold wfK kqN
    refine lp_rel (fun (a : Int32) (A : Nat) => a = nI A ∧ A ≤ 1000000) _ _ a A (fun q a A _ hq hr => ?_) hr
    obtain ⟨rfl, hA⟩ := hr
    obtain ⟨_, e2, e3⟩ := ac_N h (i := i) (j := j) (k := k) (q := q) (by omega) (by omega) (by omega) (by omega)
    have bor := bit_or X hX k (by omega) q (by omega)
    unfold wfL
    rw [if_pos (band.mpr b)]
    by_cases b2 : iiV (nI X) (nI k) = 0 ∧ iiV (nI X) (nI q) = 0
    · rw [if_pos (bor.mpr b2), if_pos b2, e2, nI_min (by omega) (by omega)]; exact ⟨rfl, by omega⟩
    · rw [if_neg (fun q9 => b2 (bor.mp q9)), if_neg b2]; exact ⟨rfl, hA⟩
  · rw [if_neg b]
    refine lp_inv (fun (a : Int32) => a = nI A ∧ A ≤ 1000000) n 0 a (fun k a _ hk hr => ?_) hr
    unfold wfK
    refine lp_inv (fun (a : Int32) => a = nI A ∧ A ≤ 1000000) _ _ a (fun q a _ hq hr => ?_) hr
    unfold wfL
    rw [if_neg (fun q9 => b (band.mp q9))]
    exact hr
theorem we_wf (h : Rl n d t D) {X : Nat} (hX : X < 2 ^ n - 1) (ho : X % 2 = 1) : weV n d (nI X) = wfV n t (nI X) := by
  have h6 := h.1.2
  have h2 := h.1.1
  have hp : 2 ^ n ≤ 64 := Nat.le_trans (Nat.pow_le_pow_right (by decide) h6) (by decide)
  have hX6 : X < 64 := by omega
  rw [we_N h hX6, wf_N h hX6]
  obtain ⟨k0, hk0, ek0⟩ := bit_out n (by omega) h2 X hX
  have e0 := bit_odd X hX6 ho
  have hv := (ac_N h (i := 0) (j := 0) (k := k0) (q := k0) (by omega) (by omega) (by omega) (by omega)).2.2
  have kle : ∀ i j A k, kqN n D (nI X) i j A k ≤ A := fun i j A k => lq_le (fun A q => by split <;> omega) _ _ _
  have ile : ∀ i A j, ijN n D (nI X) i A j ≤ A := fun i A j => by
    unfold ijN
    split
    · exact lq_le (kle i j) _ _ _
    · exact Nat.le_refl _
  have hle : wN n D (nI X) 1000000 ≤ 2000 := by
    refine lq_hit (fun A i => lq_le (ile i) _ _ _) (k0 := 0) (fun A => ?_) n 0 _ (Nat.le_refl _) (by omega)
    refine lq_hit (ile 0) (k0 := 0) (fun A => ?_) _ _ A (Nat.le_refl _) (by omega)
    show ijN n D (nI X) 0 A 0 ≤ 2000
    unfold ijN
    rw [if_pos ⟨e0, e0⟩]
    refine lq_hit (kle 0 0) (k0 := k0) (fun A => ?_) n 0 A (Nat.zero_le _) (by omega)
    show kqN n D (nI X) 0 0 A k0 ≤ 2000
    unfold kqN
    refine lq_hit (f := fun A q => if iiV (nI X) (nI k0) = 0 ∧ iiV (nI X) (nI q) = 0 then min A (vN D 0 0 k0 q) else A) (fun A q => by split <;> omega) (k0 := k0) (fun A => ?_) _ _ A (Nat.le_refl _) (by omega)
    show (if _ then _ else _) ≤ 2000
    rw [if_pos ⟨ek0, ek0⟩]
    omega
  have e : wN n D (nI X) 2000 = min (wN n D (nI X) 1000000) 2000 := by rw [← w_lin]; rfl
  rw [e, Nat.min_eq_left hle]
/-! is it NEAR -/
theorem lp_cnt {g : Nat → Int32} {M : Nat} : ∀ (c i : Nat) (a : Int32) (A : Nat), (∀ k, i ≤ k → k < i + c → ∃ b, g k = nI b ∧ b ≤ M) → a = nI A → ∃ B, lp (fun a k => a + g k) i c a = nI B ∧ B ≤ A + c * M := by
  intro c
  induction c with
  | zero => intro i a A _ e; exact ⟨A, e, by omega⟩
  | succ c ih =>
    intro i a A hg e
    obtain ⟨b, hb, hbM⟩ := hg i (Nat.le_refl _) (by omega)
    obtain ⟨B, h1, h2⟩ := ih (i + 1) (a + g i) (A + b) (fun k h1 h2 => hg k (by omega) (by omega)) (by rw [e, hb, nI_add])
    refine ⟨B, h1, ?_⟩
    have : (c + 1) * M = c * M + M := Nat.succ_mul c M
    omega
theorem bt_small (h6 : n ≤ 6) (w : Int32) : ∃ B, btV n d w = nI B ∧ B < 2 ^ 31 := by
  have sb : ∀ i j, ∃ b, sbV n d i j w = nI b ∧ b ≤ 6 := fun i j => by
    obtain ⟨B, h1, h2⟩ := lp_cnt (g := fun k => if d i j ≤ togV (d i k) (d k j) w then 0 else 1) (M := 1) n 0 0 0 (fun k _ _ => by
      by_cases q : d i j ≤ togV (d i k) (d k j) w
      · exact ⟨0, by rw [if_pos q]; rfl, by omega⟩
      · exact ⟨1, by rw [if_neg q]; rfl, by omega⟩) rfl
    refine ⟨B, ?_, by omega⟩
    rw [← h1]
    exact lp_congr n 0 0 (fun k a _ _ => add_if a _)
  have key : ∃ B, btV n d w = nI B ∧ B ≤ 0 + n * 36 := by
    unfold btV
    have : ∀ (c i : Nat) (A : Nat), i + c ≤ 6 → ∃ B, lp (fun a i => lp (fun a j => a + sbV n d i j w) (i + 1) (n - (i + 1)) a) i c (nI A) = nI B ∧ B ≤ A + c * 36 := by
      intro c
      induction c with
      | zero => intro i A _; exact ⟨A, rfl, by omega⟩
      | succ c ih =>
        intro i A hc
        obtain ⟨B1, e1, l1⟩ := lp_cnt (g := fun j => sbV n d i j w) (M := 6) (n - (i + 1)) (i + 1) (nI A) A (fun k _ _ => sb i k) rfl
        obtain ⟨B, e2, l2⟩ := ih (i + 1) B1 (by omega)
        refine ⟨B, ?_, ?_⟩
        · rw [lp_s, e1]; exact e2
        · have : (n - (i + 1)) * 6 ≤ 6 * 6 := Nat.mul_le_mul_right 6 (by omega)
          omega
    exact this n 0 0 (by omega)
  obtain ⟨B, e, l⟩ := key
  exact ⟨B, e, by have : n * 36 ≤ 6 * 36 := Nat.mul_le_mul_right 36 h6; omega⟩
theorem near_eq {α : Type} (h : Rl n d t D) (a b : α) : (if inV n d = 0 then a else b) = if boV n t 0 ≤ 0 then b else a := by
  rw [bt_eq h (Or.inl rfl)]
  unfold inV
  obtain ⟨B, e, hB⟩ := bt_small (d := d) h.1.2 0
  by_cases q : btV n d 0 = 0
  · rw [if_pos q, if_neg n10, q, if_pos (Int32.le_refl _)]
  · rw [if_neg q, if_pos rfl, if_neg]
    intro q2
    apply q
    rw [e] at q2 ⊢
    have : B ≤ 0 := (nI_leI hB (by decide)).mp (show nI B ≤ nI 0 from q2)
    have : B = 0 := by omega
    subst this
    rfl
theorem ip_eq (h2 : 2 ≤ n) (h6 : n ≤ 6) (x : Int32) : ipV n x = ipM n x := by
  have hp := pw_half h2 h6
  unfold ipV ipM mnV
  have z : iiV x 0 = if x &&& 1 = 1 then 1 else 0 := by unfold iiV; rw [sb_shr0]
  by_cases h1 : x ≤ 0
  · have : x < 1 := Int32.lt_of_le_of_lt h1 (by decide)
    rw [if_pos h1, if_pos this, if_pos rfl]
  · have hn : ¬ x < 0 := fun q => h1 (Int32.le_of_lt q)
    obtain ⟨j, hj, rfl⟩ := nI_of hn
    have hj1 : 1 ≤ j := by
      rcases Nat.lt_or_ge j 1 with q | q
      · exact absurd (show nI j ≤ nI 0 from nI_le (by omega) (by decide)) h1
      · exact q
    have h1' : ¬ nI j < 1 := fun q => nI_nlt (a := j) (b := 1) hj1 (by omega) q
    rw [if_neg h1, if_neg h1']
    by_cases q : 2 ^ n - 1 ≤ j
    · rw [if_pos (nI_le q hj), if_pos (nI_lt (by omega) hj), if_pos rfl]
    · rw [if_neg (nI_ge (by omega) (by omega)), if_neg (nI_nlt (by omega) (by omega)), if_neg n10, z]
      by_cases w : nI j &&& 1 = 1
      · rw [if_pos w, if_neg n10]
      · rw [if_neg w, if_pos rfl]
theorem ip_of (h2 : 2 ≤ n) (h6 : n ≤ 6) {x : Int32} (h : ¬ ipM n x = 0) : ∃ X, x = nI X ∧ X < 2 ^ n - 1 ∧ X % 2 = 1 := by
  have hp := pw_half h2 h6
  unfold ipM at h
  by_cases q : mnV x 1 (nI (2 ^ n - 2)) = 0
  · rw [if_pos q] at h; exact absurd rfl h
  · rw [if_neg q] at h
    unfold mnV at q
    by_cases h1 : x < 1
    · rw [if_pos h1] at q; exact absurd rfl q
    · rw [if_neg h1] at q
      by_cases h3 : nI (2 ^ n - 2) < x
      · rw [if_pos h3] at q; exact absurd rfl q
      · have h0 : ¬ x < 0 := fun q => h1 (Int32.lt_trans q (by decide))
        obtain ⟨j, hj, rfl⟩ := nI_of h0
        refine ⟨j, rfl, ?_, ?_⟩
        · rcases Nat.lt_or_ge (2 ^ n - 2) j with q2 | q2
          · exact absurd (nI_lt q2 hj) h3
          · omega
        · by_cases w : nI j &&& 1 = 1
          · have e := pk_andN (n := j) (by omega) (m := 1) 1 (by decide)
            rw [e] at w
            have := (nI_eq (a := j % 2 ^ 1) (b := 1) (by omega) (by decide)).mp w
            omega
          · rw [if_neg w] at h; exact absurd rfl h
theorem eq_weight (h : Rl n d t D) (x : Int32) : wtR n d x = wgR n t x := by
  unfold wtR wgR
  rw [ip_eq h.1.1 h.1.2, near_eq h]
  by_cases q : ipM n x = 0
  · rw [if_pos q, if_pos q]
  · obtain ⟨X, rfl, hX, ho⟩ := ip_of h.1.1 h.1.2 q
    rw [if_neg q, if_neg q, we_wf h hX ho]
theorem odd_ok (h2 : 2 ≤ n) (h6 : n ≤ 6) {q : Nat} (hq : q < 2 ^ (n - 1) - 1) : 2 * q + 1 < 2 ^ n - 1 := by
  have := pw_half h2 h6; omega
theorem eq_parts (h : Rl n d t D) : paR n d = qaR n t := by
  unfold paR qaR
  rw [near_eq h]
  have : hwV n d = qaV n t := by
    unfold hwV qaV
    refine lp_congr _ _ _ (fun q a _ hq => ?_)
    unfold hwF qaF
    rw [we_wf h (odd_ok h.1.1 h.1.2 (by omega)) (by omega)]
    congr 1
    split
    · rfl
    · rfl
  rw [this]
theorem eq_rest (h : Rl n d t D) (x y : Int32) : reR n d x y = qrR n t x y := by
  unfold reR qrR
  rw [kn2_M h.1.1 h.1.2, near_eq h]
  by_cases q : knM n x = 0
  · simp only [if_pos q]
  · by_cases q2 : knM n y = 0
    · simp only [if_neg q, if_pos q2]
    · simp only [if_neg q, if_neg q2]
      have ax := (knM_tn h.1.2 h.1.1 q).2
      have ay := (knM_tn h.1.2 h.1.1 q2).2
      have h6 := h.1.2
      have hp : 2 ^ n ≤ 64 := Nat.le_trans (Nat.pow_le_pow_right (by decide) h6) (by decide)
      have : loV n d (tn x) (tn y) = qrV n t (tn x) (tn y) := by
        unfold loV qrV
        rw [h.td (by omega) (by omega)]
        refine lp_congr _ _ _ (fun q a _ hq => ?_)
        have ho := odd_ok h.1.1 h.1.2 (q := q) (by omega)
        unfold loF qrF
        have bx := bit_xor (2 * q + 1) (by omega) (tn x) (by omega) (tn y) (by omega)
        by_cases w : iiV (nI (2 * q + 1)) (nI (tn x)) = iiV (nI (2 * q + 1)) (nI (tn y))
        · rw [if_pos w, if_neg (fun q9 => bx.mp q9 w), Int32.sub_zero]
        · rw [if_neg w, if_pos (bx.mpr w), we_wf h ho (by omega)]
      rw [this]
end EQW
