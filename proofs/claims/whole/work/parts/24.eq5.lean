/-! lots: the orders, point by point -/
def bitN (T p : Nat) : Nat := T / 2 ^ p % 2
def pcN (T : Nat) : Nat := bitN T 0 + bitN T 1 + bitN T 2 + bitN T 3 + bitN T 4 + bitN T 5
/-- the s-th place, from p on, that isn't taken -/
def pkN : Nat → Nat → Nat → Nat → Nat
  | 0, p, _, _ => p
  | f + 1, p, T, s => if T % 2 = 1 then pkN f (p + 1) (T / 2) s else if s = 0 then p else pkN f (p + 1) (T / 2) (s - 1)
abbrev pk0 (T s : Nat) : Nat := pkN 6 0 T s
set_option maxRecDepth 100000 in
theorem pk_md : ∀ T, T < 64 → ∀ s, s < 6 → mdW (nI T) 6 0 (nI s) = pk0 T s := by decide +kernel
abbrev pkP (n T s : Nat) : Prop := (pk0 T s < n ∧ bitN T (pk0 T s) = 0) ∧ (T + 2 ^ pk0 T s < 2 ^ n ∧ pcN (T + 2 ^ pk0 T s) = pcN T + 1)
abbrev pkU (n T s : Nat) : Prop := uaN (nI (2 ^ n - 1 - T)) n 0 (nI s) = pk0 T s ∧ clr (nI (2 ^ n - 1 - T)) (pk0 T s) = nI (2 ^ n - 1 - (T + 2 ^ pk0 T s))
def pkb (n T s : Nat) : Bool := !(decide (2 ≤ n) && decide (T < 2 ^ n) && decide (s + pcN T < n)) || (decide (pkP n T s) && decide (pkU n T s))
set_option maxRecDepth 100000 in
theorem pk_b : ∀ n, n < 7 → ∀ T, T < 64 → ∀ s, s < 6 → pkb n T s = true := by decide +kernel
theorem pk_bb {n T s : Nat} (hn : n < 7) (h2 : 2 ≤ n) (hT : T < 2 ^ n) (hs : s < 6) (hc : s + pcN T < n) : pkP n T s ∧ pkU n T s := by
  have hp : 2 ^ n ≤ 64 := Nat.le_trans (Nat.pow_le_pow_right (by decide) (show n ≤ 6 by omega)) (by decide)
  have := pk_b n hn T (by omega) s hs
  unfold pkb at this
  simp only [decide_eq_true h2, decide_eq_true hT, decide_eq_true hc, Bool.and_self, Bool.not_true, Bool.false_or, Bool.and_eq_true, decide_eq_true_eq] at this
  exact this
theorem pk_ok (n : Nat) (hn : n < 7) (h2 : 2 ≤ n) (T : Nat) (hT : T < 2 ^ n) (s : Nat) (hs : s < 6) (hc : s + pcN T < n) : pkP n T s := (pk_bb hn h2 hT hs hc).1
theorem pk_ua (n : Nat) (hn : n < 7) (h2 : 2 ≤ n) (T : Nat) (hT : T < 2 ^ n) (s : Nat) (hs : s < 6) (hc : s + pcN T < n) : pkU n T s := (pk_bb hn h2 hT hs hc).2
set_option maxRecDepth 100000 in
theorem pk_or : ∀ T, T < 64 → ∀ p, p < 6 → bitN T p = 0 → nI T ||| (1 <<< (nI p &&& 31)) = nI (T + 2 ^ p) := by decide +kernel
set_option maxRecDepth 100000 in
theorem pk_keep : ∀ T, T < 64 → ∀ p, p < 6 → bitN T p = 0 → ∀ i, i < 6 → bitN (T + 2 ^ p) i = if i = p then 1 else bitN T i := by decide +kernel
set_option maxRecDepth 100000 in
theorem pc_full : ∀ n, n < 7 → 2 ≤ n → ∀ T, T < 2 ^ n → pcN T = n → ∀ i, i < n → bitN T i = 1 := by decide +kernel
theorem fct_mul {f : Nat} (h : f ≤ 5) : fct (f + 1) = (f + 1) * fct f := by
  have : f = 0 ∨ f = 1 ∨ f = 2 ∨ f = 3 ∨ f = 4 ∨ f = 5 := by omega
  rcases this with rfl | rfl | rfl | rfl | rfl | rfl <;> decide
section EQL
variable {n : Nat} (h2 : 2 ≤ n) (h6 : n ≤ 6)
/-- the state of a draw: T taken, f more to come, left below f! -/
def Dr (n f left T : Nat) : Prop := T < 2 ^ n ∧ pcN T + f = n ∧ left < fct f
theorem Dr.step (h2 : 2 ≤ n) (h6 : n ≤ 6) {f left T : Nat} (h : Dr n (f + 1) left T) : ((mdP (nI T) left f = pk0 T (left / fct f) ∧ pk0 T (left / fct f) < n) ∧ bitN T (pk0 T (left / fct f)) = 0) ∧ (mdT (nI T) left f = nI (T + 2 ^ pk0 T (left / fct f)) ∧ Dr n f (left % fct f) (T + 2 ^ pk0 T (left / fct f))) ∧ (uaN (nI (2 ^ n - 1 - T)) n 0 (nI (left / fct f)) = pk0 T (left / fct f) ∧ clr (nI (2 ^ n - 1 - T)) (pk0 T (left / fct f)) = nI (2 ^ n - 1 - (T + 2 ^ pk0 T (left / fct f)))) := by
  obtain ⟨hT, hc, hl⟩ := h
  have hp : 2 ^ n ≤ 64 := Nat.le_trans (Nat.pow_le_pow_right (by decide) h6) (by decide)
  have hf : f ≤ 5 := by omega
  have hfp := fct_in (k := f) (by omega)
  have hs : left / fct f < f + 1 := by
    apply Nat.div_lt_of_lt_mul
    rw [Nat.mul_comm, ← fct_mul hf]
    exact hl
  obtain ⟨⟨a1, a2⟩, a3, a4⟩ := pk_ok n (by omega) h2 T hT (left / fct f) (by omega) (by omega)
  have e1 : mdP (nI T) left f = pk0 T (left / fct f) := pk_md T (by omega) _ (by omega)
  refine ⟨⟨⟨e1, a1⟩, a2⟩, ⟨?_, a3, by omega, Nat.mod_lt _ hfp.1⟩, pk_ua n (by omega) h2 T hT _ (by omega) (by omega)⟩
  unfold mdT
  rw [e1]
  exact pk_or T (by omega) _ (by omega) a2
theorem Dr.start (h2 : 2 ≤ n) {lot : Nat} (h : lot < fct n) : Dr n n lot 0 := ⟨Nat.two_pow_pos n, by show 0 + n = n; omega, h⟩
theorem md_ok (h2 : 2 ≤ n) (h6 : n ≤ 6) : ∀ (f left T : Nat), Dr n f left T → mdK f left (nI T) := by
  intro f
  induction f with
  | zero => intro left T _; exact trivial
  | succ f ih =>
    intro left T h
    obtain ⟨⟨⟨e1, a1⟩, _⟩, ⟨e2, h'⟩, _⟩ := Dr.step h2 h6 h
    refine ⟨by rw [e1]; omega, ?_⟩
    rw [e2]
    exact ih _ _ h'
theorem mdK_all (h2 : 2 ≤ n) (h6 : n ≤ 6) : ∀ lot : Nat, lot < fct n → mdK n lot 0 := fun lot h => md_ok h2 h6 n lot 0 (Dr.start h2 h)
theorem gfF_sh (t : Nat → Int32) (O : Nat → Nat) (i : Nat) (r : Int32) : ∀ (f k : Nat), gfF t O i r f (k + 1) = gfF t (fun j => O (j + 1)) i r f k + 1 := by
  intro f
  induction f with
  | zero => intro k; rfl
  | succ f ih =>
    intro k
    unfold gfF
    split
    · rfl
    · exact ih (k + 1)
def gS (t : Nat → Int32) (i : Nat) (r : Int32) (f left : Nat) (tk : Int32) : Nat := mdO f left tk (gfF t (mdO f left tk) i r f 0)
theorem gS_s (t : Nat → Int32) (i : Nat) (r : Int32) (f left : Nat) (tk : Int32) : gS t i r (f + 1) left tk = (if t (6 * i + mdP tk left f) ≤ r then mdP tk left f else gS t i r f (left % fct f) (mdT tk left f)) ∧ gfF t (mdO (f + 1) left tk) i r (f + 1) 0 = (if t (6 * i + mdP tk left f) ≤ r then 0 else gfF t (mdO f (left % fct f) (mdT tk left f)) i r f 0 + 1) := by
  have e0 : mdO (f + 1) left tk 0 = mdP tk left f := by rw [mdO, if_pos rfl]
  have es : (fun j => mdO (f + 1) left tk (j + 1)) = mdO f (left % fct f) (mdT tk left f) := by
    funext j
    rw [mdO, if_neg (by omega)]
    rfl
  have g : gfF t (mdO (f + 1) left tk) i r (f + 1) 0 = (if t (6 * i + mdP tk left f) ≤ r then 0 else gfF t (mdO f (left % fct f) (mdT tk left f)) i r f 0 + 1) := by
    rw [gfF, e0, gfF_sh, es]
  refine ⟨?_, g⟩
  unfold gS
  rw [g]
  split
  · exact e0
  · exact congrFun es _
variable {d : Nat → Nat → Int32} {t : Nat → Int32} {D : Nat → Nat → Nat}
theorem goal_fw (h : Rl n d t D) {i : Nat} (hi : i < n) {r : Int32} (hr : ¬ r < 0) : ∀ (f left T : Nat), Dr n f left T → bitN T i = 0 → gS t i r f left (nI T) = fwN n d i r f (nI (2 ^ n - 1 - T)) left ∧ gfF t (mdO f left (nI T)) i r f 0 < f := by
  have h2 := h.1.1
  have h6 := h.1.2
  have hp : 2 ^ n ≤ 64 := Nat.le_trans (Nat.pow_le_pow_right (by decide) h6) (by decide)
  intro f
  induction f with
  | zero =>
    intro left T hD hb
    have := pc_full n (by omega) h2 T hD.1 (by have := hD.2.1; omega) i hi
    omega
  | succ f ih =>
    intro left T hD hb
    obtain ⟨⟨⟨e1, a1⟩, a2⟩, ⟨e2, h'⟩, e3, e4⟩ := Dr.step h2 h6 hD
    obtain ⟨g1, g2⟩ := gS_s t i r f left (nI T)
    rw [g1, g2, fwN, e1, e2, e3, e4, h.td (by omega) (by omega)]
    by_cases q : d i (pk0 T (left / fct f)) ≤ r
    · rw [if_pos q, if_pos q, if_neg (Int32.not_lt.mpr q)]
      exact ⟨rfl, by omega⟩
    · have q' := i_not_le q
      rw [if_neg q, if_neg q, if_pos q']
      have hne : i ≠ pk0 T (left / fct f) := fun e => q (by rw [← e, h.d0 (by omega)]; exact i_not_lt hr)
      have hb' : bitN (T + 2 ^ pk0 T (left / fct f)) i = 0 := by
        rw [pk_keep T (by have := hD.1; omega) _ (by omega) a2 i (by omega), if_neg hne]; exact hb
      obtain ⟨r1, r2⟩ := ih _ _ h' hb'
      exact ⟨r1, by omega⟩
/-! lots dealt by taking away: as by dividing -/
theorem nd_ua (u : Int32) {e : Nat} (he : 0 < e) (he2 : e < 2 ^ 31) : ∀ (k q t : Nat), t < 2 ^ 31 → ndN u (nI e) k q (nI t) = uaN u k q (nI (t / e)) := by
  intro k
  induction k with
  | zero => intro q t _; rfl
  | succ k ih =>
    intro q t ht
    rw [ndN, uaN]
    by_cases c : (u >>> (nI q &&& 31)) &&& 1 = 1
    · rw [if_pos c, if_pos c]
      rcases Nat.lt_or_ge t e with g | g
      · rw [if_neg (nI_ge g he2), Nat.div_eq_of_lt g, if_pos nI_0]
      · have e1 : t / e = (t - e) / e + 1 := Nat.div_eq_sub_div he g
        have hd : t / e ≤ t := Nat.div_le_self _ _
        rw [if_pos (nI_le g ht), pk_sub g, ih _ _ (by omega), if_neg (nI_ne0 (Nat.div_pos g he) (by omega)), e1, pk_m1]
    · rw [if_neg c, if_neg c]
      exact ih _ _ ht
abbrev pkV (n T s : Nat) : Prop := bctV (nI (2 ^ n - 1 - T) &&& ((1 <<< (nI (pk0 T s) &&& 31)) - 1)) = nI s
def pkv (n T s : Nat) : Bool := !(decide (2 ≤ n) && decide (T < 2 ^ n) && decide (s + pcN T < n)) || decide (pkV n T s)
set_option maxRecDepth 100000 in
theorem pk_v : ∀ n, n < 7 → ∀ T, T < 64 → ∀ s, s < 6 → pkv n T s = true := by decide +kernel
theorem pk_vv {n T s : Nat} (hn : n < 7) (h2 : 2 ≤ n) (hT : T < 2 ^ n) (hs : s < 6) (hc : s + pcN T < n) : pkV n T s := by
  have hp : 2 ^ n ≤ 64 := Nat.le_trans (Nat.pow_le_pow_right (by decide) (show n ≤ 6 by omega)) (by decide)
  have := pk_v n hn T (by omega) s hs
  unfold pkv at this
  simp only [decide_eq_true h2, decide_eq_true hT, decide_eq_true hc, Bool.and_self, Bool.not_true, Bool.false_or, decide_eq_true_eq] at this
  exact this
theorem fwD_fw (h2 : 2 ≤ n) (h6 : n ≤ 6) (i : Nat) (r : Int32) : ∀ (f left T : Nat), Dr n f left T → fwD n d i r f (nI (2 ^ n - 1 - T)) (nI left) = fwN n d i r f (nI (2 ^ n - 1 - T)) left := by
  intro f
  induction f with
  | zero => intro left T _; rfl
  | succ f ih =>
    intro left T hD
    have hf : f ≤ 5 := by have := hD.2.1; omega
    have hfp := fct_in (k := f) (by omega)
    have hlt : left < (f + 1) * fct f := by rw [← fct_mul hf]; exact hD.2.2
    have hs : left / fct f < f + 1 := by
      apply Nat.div_lt_of_lt_mul
      rw [Nat.mul_comm]
      exact hlt
    have hl2 : left < 2 ^ 31 := by
      have := hD.2.2
      have := (fct_in (k := f + 1) (by omega)).2
      omega
    obtain ⟨_, ⟨_, h'⟩, e3, e4⟩ := Dr.step h2 h6 hD
    have nd : ndN (nI (2 ^ n - 1 - T)) (nI (fct f)) n 0 (nI left) = pk0 T (left / fct f) := (nd_ua _ hfp.1 (by omega) n 0 left hl2).trans e3
    have bt : bctV (nI (2 ^ n - 1 - T) &&& ((1 <<< (nI (pk0 T (left / fct f)) &&& 31)) - 1)) = nI (left / fct f) := pk_vv (by omega) h2 hD.1 (by omega) (by have := hD.2.1; omega)
    have dm := Nat.div_add_mod left (fct f)
    have lf : nI left - nI (fct f) * nI (left / fct f) = nI (left % fct f) := by
      rw [pk_mul, pk_sub (by omega)]
      congr 1
      omega
    rw [fwD, fwN, nd, e3, e4, bt, lf, ih _ _ h']
theorem bit_00 (i : Nat) : bitN 0 i = 0 := by unfold bitN; rw [Nat.zero_div]
theorem ir_nn {r : Int32} (h : ¬ mnV r 0 1000 = 0) : ¬ r < 0 := fun q => h (by unfold mnV; rw [if_pos q])
theorem GoOK_all (h : Rl n d t D) (r : Int32) : ∀ (i : Nat) (lot : Nat), i < n → lot < fct n → ¬ mnV r 0 1000 = 0 → GoOK n t i r lot := fun i lot hi hl hr =>
  (goal_fw h hi (ir_nn hr) n lot 0 (Dr.start h.1.1 hl) (bit_00 i)).2
theorem eq_goes (h : Rl n d t D) (x q r : Int32) : geR n d x q r = gsR2 n t x q r := by
  have hf := fct_in h.1.2
  unfold geR gsR2
  rw [kn_M h.1.1 h.1.2, ir_M]
  by_cases q1 : knM n x = 0
  · rw [if_pos q1, if_pos q1]
  · rw [if_neg q1, if_neg q1]
    by_cases q2 : q < 0
    · rw [if_pos q2, if_pos (by unfold mnV; rw [if_pos q2])]
    · rw [if_neg q2]
      obtain ⟨j, hj, rfl⟩ := nI_of q2
      by_cases q3 : fct n ≤ j
      · rw [if_pos (nI_le q3 hj), if_pos (by unfold mnV; rw [if_neg q2, if_pos (nI_lt (by omega) hj)])]
      · have e : ¬ mnV (nI j) 0 (nI (fct n - 1)) = 0 := by
          unfold mnV; rw [if_neg q2, if_neg (nI_nlt (by omega) (by omega))]; decide
        rw [if_neg (nI_ge (by omega) (by omega)), if_neg e]
        by_cases q4 : mnV r 0 1000 = 0
        · rw [if_pos q4, if_pos q4]
        · rw [if_neg q4, if_neg q4]
          have hx := (knM_tn h.1.2 h.1.1 q1).2
          have ej : tn (nI j) = j := by unfold tn; exact nI_clamp hj
          rw [ej]
          exact congrArg nI ((fwD_fw h.1.1 h.1.2 _ r n j 0 (Dr.start h.1.1 (by omega))).trans (goal_fw h hx (ir_nn q4) n j 0 (Dr.start h.1.1 (by omega)) (bit_00 _)).1.symm)
/-! how often two are parted -/
def gM (A : Nat) : Nat → Nat → Nat → Nat
  | 0, _, _ => 0
  | f + 1, T, left => if bitN A (pk0 T (left / fct f)) = 1 then pk0 T (left / fct f) else gM A f (T + 2 ^ pk0 T (left / fct f)) (left % fct f)
def Ms (n : Nat) (d : Nat → Nat → Int32) (i : Nat) (r : Int32) (A : Nat) : Prop := A < 2 ^ n ∧ ∀ k, k < n → (bitN A k = 1 ↔ d i k ≤ r)
theorem gS_gM (h : Rl n d t D) {i : Nat} (hi : i < n) {r : Int32} {A : Nat} (hA : Ms n d i r A) : ∀ (f left T : Nat), Dr n f left T → gS t i r f left (nI T) = gM A f T left := by
  have h2 := h.1.1
  have h6 := h.1.2
  intro f
  induction f with
  | zero => intro left T _; rfl
  | succ f ih =>
    intro left T hD
    obtain ⟨⟨⟨e1, a1⟩, a2⟩, ⟨e2, h'⟩, _⟩ := Dr.step h2 h6 hD
    rw [(gS_s t i r f left (nI T)).1, gM, e1, e2, h.td (by omega) (by omega)]
    by_cases q : d i (pk0 T (left / fct f)) ≤ r
    · rw [if_pos q, if_pos ((hA.2 _ a1).mpr q)]
    · rw [if_neg q, if_neg (fun w => q ((hA.2 _ a1).mp w))]
      exact ih _ _ h'
theorem gM_free (h2 : 2 ≤ n) (h6 : n ≤ 6) {B j : Nat} (hj : j < n) (hB : bitN B j = 1) : ∀ (f left T : Nat), Dr n f left T → bitN T j = 0 → gM B f T left < n ∧ bitN T (gM B f T left) = 0 := by
  have hp : 2 ^ n ≤ 64 := Nat.le_trans (Nat.pow_le_pow_right (by decide) h6) (by decide)
  intro f
  induction f with
  | zero =>
    intro left T hD hb
    have := pc_full n (by omega) h2 T hD.1 (by have := hD.2.1; omega) j hj
    omega
  | succ f ih =>
    intro left T hD hb
    obtain ⟨⟨⟨e1, a1⟩, a2⟩, ⟨e2, h'⟩, _⟩ := Dr.step h2 h6 hD
    rw [gM]
    by_cases q : bitN B (pk0 T (left / fct f)) = 1
    · rw [if_pos q]; exact ⟨a1, a2⟩
    · rw [if_neg q]
      have hne : j ≠ pk0 T (left / fct f) := fun e => q (by rw [← e]; exact hB)
      have hT := hD.1
      have keep := pk_keep T (by omega) (pk0 T (left / fct f)) (by omega) a2
      obtain ⟨r1, r2⟩ := ih _ _ h' (by rw [keep j (by omega), if_neg hne]; exact hb)
      refine ⟨r1, ?_⟩
      rw [keep _ (by omega)] at r2
      split at r2
      · omega
      · exact r2
theorem lp_addN (g : Nat → Nat) : ∀ (c i a : Nat), lp (fun a k => a + g k) i c a = a + lp (fun a k => a + g k) i c 0 := by
  intro c
  induction c with
  | zero => intro i a; rfl
  | succ c ih =>
    intro i a
    rw [lp_s, lp_s, ih (i + 1) (a + g i), ih (i + 1) (0 + g i)]
    omega
theorem lp_shN (g : Nat → Nat) (s : Nat) : ∀ (c i a : Nat), lp (fun a k => a + g k) (s + i) c a = lp (fun a k => a + g (s + k)) i c a := by
  intro c
  induction c with
  | zero => intro i a; rfl
  | succ c ih =>
    intro i a
    rw [lp_s, lp_s]
    exact ih (i + 1) (a + g (s + i))
theorem lp_snoc {α : Type} (f : α → Nat → α) (c i : Nat) (a : α) : lp f i (c + 1) a = f (lp f i c a) (i + c) := lp_app f c 1 i a
theorem lp_two (G : Nat → Nat → Nat) {F : Nat} (hF : 0 < F) : ∀ (m : Nat), lp (fun c q => c + G (q / F) (q % F)) 0 (m * F) 0 = lp (fun c s => c + lp (fun c l => c + G s l) 0 F 0) 0 m 0 := by
  intro m
  induction m with
  | zero => rw [Nat.zero_mul]; rfl
  | succ m ih =>
    rw [Nat.succ_mul, lp_app, lp_snoc, ih, Nat.zero_add, lp_addN, Nat.zero_add]
    congr 1
    have := lp_shN (fun q => G (q / F) (q % F)) (m * F) F 0 0
    rw [Nat.add_zero] at this
    rw [this]
    refine lp_congr F 0 0 (fun l a _ hl => ?_)
    have e1 : (m * F + l) / F = m := by rw [Nat.mul_comm, Nat.mul_add_div hF, Nat.div_eq_of_lt (by omega), Nat.add_zero]
    have e2 : (m * F + l) % F = l := by rw [Nat.mul_comm, Nat.mul_add_mod, Nat.mod_eq_of_lt (by omega)]
    rw [e1, e2]
theorem lp_const (v : Nat) : ∀ (c i a : Nat), lp (fun a (_ : Nat) => a + v) i c a = a + c * v := by
  intro c
  induction c with
  | zero => intro i a; rw [Nat.zero_mul]; rfl
  | succ c ih => intro i a; rw [lp_s, ih, Nat.succ_mul]; omega
def cD (A B f T : Nat) : Nat := lp (fun c q => c + (if gM A f T q = gM B f T q then 0 else 1)) 0 (fct f) 0
def cR : Nat → Nat → Nat → Nat → Nat
  | 0, _, _, _ => 0
  | f + 1, T, A, B => lp (fun c s => c + (if bitN A (pk0 T s) = 1 then (if bitN B (pk0 T s) = 1 then 0 else fct f) else if bitN B (pk0 T s) = 1 then fct f else cR f (T + 2 ^ pk0 T s) A B)) 0 (f + 1) 0
theorem cD_cR (h2 : 2 ≤ n) (h6 : n ≤ 6) {A B i j : Nat} (hi : i < n) (hj : j < n) (hA : bitN A i = 1) (hB : bitN B j = 1) : ∀ (f T : Nat), T < 2 ^ n → pcN T + f = n → bitN T i = 0 → bitN T j = 0 → cD A B f T = cR f T A B := by
  have hp : 2 ^ n ≤ 64 := Nat.le_trans (Nat.pow_le_pow_right (by decide) h6) (by decide)
  intro f
  induction f with
  | zero =>
    intro T hT hc hbi hbj
    have := pc_full n (by omega) h2 T hT (by omega) i hi
    omega
  | succ f ih =>
    intro T hT hc hbi hbj
    have hf : f ≤ 5 := by omega
    have hF := fct_in (k := f) (by omega)
    unfold cD
    rw [fct_mul hf, cR]
    have e := lp_two (fun s l => if (if bitN A (pk0 T s) = 1 then pk0 T s else gM A f (T + 2 ^ pk0 T s) l) = (if bitN B (pk0 T s) = 1 then pk0 T s else gM B f (T + 2 ^ pk0 T s) l) then 0 else 1) hF.1 (f + 1)
    refine Eq.trans (lp_congr _ _ _ (fun q a _ _ => ?_)) (e.trans (lp_congr _ _ _ (fun s a _ hs => ?_)))
    · rw [gM, gM]
    · obtain ⟨⟨a1, a2⟩, a3, a4⟩ := pk_ok n (by omega) h2 T hT s (by omega) (by omega)
      have keep := pk_keep T (by omega) (pk0 T s) (by omega) a2
      have hD : ∀ l, l < fct f → Dr n f l (T + 2 ^ pk0 T s) := fun l hl => ⟨a3, by omega, hl⟩
      have ti : bitN A (pk0 T s) ≠ 1 → bitN (T + 2 ^ pk0 T s) i = 0 := fun q => by rw [keep i (by omega), if_neg (fun e => q (by rw [← e]; exact hA))]; exact hbi
      have tj : bitN B (pk0 T s) ≠ 1 → bitN (T + 2 ^ pk0 T s) j = 0 := fun q => by rw [keep j (by omega), if_neg (fun e => q (by rw [← e]; exact hB))]; exact hbj
      have tp : bitN (T + 2 ^ pk0 T s) (pk0 T s) = 1 := by rw [keep _ (by omega), if_pos rfl]
      congr 1
      by_cases qa : bitN A (pk0 T s) = 1
      · by_cases qb : bitN B (pk0 T s) = 1
        · simp only [if_pos qa, if_pos qb, if_true]
          rw [lp_const]; omega
        · simp only [if_pos qa, if_neg qb]
          refine Eq.trans (lp_congr (g := fun c (_ : Nat) => c + 1) _ _ _ (fun l c _ hl => ?_)) (by rw [lp_const]; omega)
          have := gM_free h2 h6 hj hB f l _ (hD l (by omega)) (tj qb)
          rw [if_neg]
          intro e9
          rw [← e9, tp] at this
          omega
      · by_cases qb : bitN B (pk0 T s) = 1
        · simp only [if_neg qa, if_pos qb]
          refine Eq.trans (lp_congr (g := fun c (_ : Nat) => c + 1) _ _ _ (fun l c _ hl => ?_)) (by rw [lp_const]; omega)
          have := gM_free h2 h6 hi hA f l _ (hD l (by omega)) (ti qa)
          rw [if_neg]
          intro e9
          rw [e9, tp] at this
          omega
        · simp only [if_neg qa, if_neg qb]
          exact ih _ a3 (by omega) (ti qa) (tj qb)
end EQL
