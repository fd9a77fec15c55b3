theorem lp_ix {α : Type} (P : Nat → α → Prop) {f : α → Nat → α} : ∀ (c i : Nat) (a : α), (∀ k a, i ≤ k → k < i + c → P k a → P (k + 1) (f a k)) → P i a → P (i + c) (lp f i c a) := by
  intro c
  induction c with
  | zero => intro i a _ h; exact h
  | succ c ih =>
    intro i a hs h
    have := ih (i + 1) (f a i) (fun k a h1 h2 hp => hs k a (by omega) (by omega) hp) (hs i a (Nat.le_refl _) (by omega) h)
    rw [show i + 1 + c = i + (c + 1) by omega] at this
    exact this
/-! broken, is -/
theorem nIe {a b : Nat} (ha : a < 6) (hb : b < 6) : nI a = nI b ↔ a = b := nI_eq (by omega) (by omega)
theorem add_if (a : Int32) (P : Prop) [Decidable P] : (if P then a else a + 1) = a + (if P then 0 else 1) := by
  split
  · rw [Int32.add_zero]
  · rfl
theorem add_if2 (a : Int32) (P : Prop) [Decidable P] : (if P then a + 1 else a) = a + (if P then 1 else 0) := by
  split
  · rfl
  · rw [Int32.add_zero]
section EQB
variable {n : Nat} {d : Nat → Nat → Int32} {t : Nat → Int32} {D : Nat → Nat → Nat}
theorem n10 : ¬ (1 : Int32) = 0 := by decide
theorem n20 : ¬ (2 : Int32) = 0 := by decide
theorem n21 : ¬ (2 : Int32) = 1 := by decide
theorem tog0 (x y : Int32) : togV x y 0 = x + y := if_pos rfl
theorem tog1 (x y : Int32) : togV x y 1 = mx x y := if_neg n10
theorem boB_eq (h : Rl n d t D) {w : Int32} (hw : w = 0 ∨ w = 1) {i j k : Nat} (hi : i < 6) (hj : j < 6) (hk : k < 6) (a : Int32) : boB t w i j a k = a + (if d i j ≤ togV (d i k) (d k j) w then 0 else 1) := by
  have e1 := h.td hi hj
  have e2 := h.td hi hk
  have e3 := h.td hk hj
  have b0 : boB t 0 i j a k = a + (if nI k = nI i then 0 else if nI k = nI j then 0 else if t (6 * i + j) ≤ t (6 * i + k) + t (6 * k + j) then 0 else 1) := if_pos rfl
  have b1 : boB t 1 i j a k = a + (if nI k = nI i then 0 else if nI k = nI j then 0 else if t (6 * i + j) ≤ grt (t (6 * i + k)) (t (6 * k + j)) then 0 else 1) := if_neg n10
  by_cases k1 : k = i
  · have n1 : nI k = nI i := by rw [k1]
    rcases hw with rfl | rfl
    · rw [b0, tog0, if_pos n1, if_pos]
      rw [k1, h.d0 hi, Int32.zero_add]
      exact Int32.le_refl _
    · rw [b1, tog1, if_pos n1, if_pos]
      rw [k1]
      exact le_mx_r _ _
  · have n1 : ¬ nI k = nI i := fun q => k1 ((nIe hk hi).mp q)
    by_cases k2 : k = j
    · have n2 : nI k = nI j := by rw [k2]
      rcases hw with rfl | rfl
      · rw [b0, tog0, if_neg n1, if_pos n2, if_pos]
        rw [k2, h.d0 hj, Int32.add_zero]
        exact Int32.le_refl _
      · rw [b1, tog1, if_neg n1, if_pos n2, if_pos]
        rw [k2]
        exact le_mx_l _ _
    · have n2 : ¬ nI k = nI j := fun q => k2 ((nIe hk hj).mp q)
      rcases hw with rfl | rfl
      · rw [b0, tog0, if_neg n1, if_neg n2, e1, e2, e3]
      · rw [b1, tog1, if_neg n1, if_neg n2, e1, e2, e3, mx_grt]
theorem sb_eq (h : Rl n d t D) {w : Int32} (hw : w = 0 ∨ w = 1) {i j : Nat} (hi : i < 6) (hj : j < 6) (a : Int32) : lp (boB t w i j) 0 n a = a + sbV n d i j w := by
  have h6 := h.1.2
  rw [lp_congr (g := fun a k => a + (if d i j ≤ togV (d i k) (d k j) w then 0 else 1)) n 0 a (fun k a _ hk => boB_eq h hw hi hj (by omega) a), lp_add]
  congr 1
  unfold sbV
  exact (lp_congr n 0 0 (fun k a _ _ => add_if a _)).symm
theorem bt_eq (h : Rl n d t D) {w : Int32} (hw : w = 0 ∨ w = 1) : boV n t w = btV n d w := by
  have h6 := h.1.2
  unfold boV btV
  refine lp_congr n 0 0 (fun i a _ hi => ?_)
  unfold boO
  refine lp_congr _ _ _ (fun j a _ hj => ?_)
  unfold boJ bo4 bo1
  have e1 : ¬ w = 2 := by rcases hw with rfl | rfl <;> decide
  have e2 : ¬ (2 : Int32) ≤ w := by rcases hw with rfl | rfl <;> decide
  rw [if_neg e1, if_neg e2]
  exact sb_eq h hw (by omega) (by omega) a
theorem tg_eq (a b c : Int32) : tgaV a b c = if (if a = grt a (grt b c) then (1 : Int32) else 0) + (if b = grt a (grt b c) then 1 else 0) + (if c = grt a (grt b c) then 1 else 0) ≤ 1 then 0 else 1 := by
  unfold tgaV
  rw [mx_grt b c, mx_grt a]
  generalize grt a (grt b c) = M
  by_cases ha : a = M
  · by_cases hb : b = M
    · by_cases hc : c = M
      · subst ha; subst hb; subst hc; simp
      · subst ha; subst hb; simp [hc]
    · by_cases hc : c = M
      · subst ha; subst hc; simp [hb, Ne.symm hb]
      · subst ha; simp [Ne.symm hb, Ne.symm hc, hb, hc]
  · by_cases hb : b = M
    · by_cases hc : c = M
      · subst hb; subst hc; simp [ha]
      · subst hb; simp [ha, hc, Ne.symm hc]
    · by_cases hc : c = M
      · subst hc; simp [ha, hb]
      · simp [ha, hb, hc]
theorem af_eq (h : Rl n d t D) {i j k q : Nat} (hi : i < 6) (hj : j < 6) (hk : k < 6) (hq : q < 6) : afV t i j k q = tgaV (d i j + d k q) (d i k + d j q) (d i q + d j k) := by
  rw [tg_eq]
  unfold afV
  simp only [af1, afm, h.td hi hj, h.td hk hq, h.td hi hk, h.td hj hq, h.td hi hq, h.td hj hk]
theorem bf_eq (h : Rl n d t D) : boV n t 2 = bfV n d := by
  have h6 := h.1.2
  unfold boV bfV
  refine lp_congr n 0 0 (fun i a _ hi => ?_)
  unfold boO
  refine lp_congr _ _ _ (fun j a _ hj => ?_)
  unfold boJ bo4 bo1
  rw [if_pos rfl, if_pos (Int32.le_refl _)]
  refine lp_congr _ _ _ (fun k a hk0 hk => ?_)
  unfold bo2 bffV
  rw [lp_congr (g := fun a q => a + (if tgaV (d i j + d k q) (d i k + d j q) (d i q + d j k) = 0 then 1 else 0)) _ _ a (fun q a _ hq => by unfold bo3; rw [af_eq h (by omega) (by omega) (by omega) (by omega)]), lp_add]
  congr 1
  exact (lp_congr _ _ 0 (fun q a _ _ => add_if2 a _)).symm
theorem w3 (w : Int32) : w = 0 ∨ w = 1 ∨ w = 2 ∨ mnV w 0 2 = 0 := by
  by_cases h : mnV w 0 2 = 0
  · exact Or.inr (Or.inr (Or.inr h))
  · obtain ⟨e, h2⟩ := mn_tn (b := 2) (by decide) h
    have : tn w = 0 ∨ tn w = 1 ∨ tn w = 2 := by omega
    rcases this with q | q | q
    · rw [q] at e; exact Or.inl e
    · rw [q] at e; exact Or.inr (Or.inl e)
    · rw [q] at e; exact Or.inr (Or.inr (Or.inl e))
theorem eq_broken (h : Rl n d t D) (w : Int32) : bkR n d w = mkR n t w := by
  unfold bkR mkR
  by_cases h0 : w = 0
  · subst h0; rw [if_pos rfl, if_neg (by decide)]; exact (bt_eq h (Or.inl rfl)).symm
  · by_cases h1 : w = 1
    · subst h1; rw [if_neg (by decide), if_pos rfl, if_neg (by decide)]; exact (bt_eq h (Or.inr rfl)).symm
    · by_cases h2 : w = 2
      · subst h2; rw [if_neg (by decide), if_neg (by decide), if_pos rfl, if_neg (by decide)]; exact (bf_eq h).symm
      · rw [if_neg h0, if_neg h1, if_neg h2, if_pos (((w3 w).resolve_left h0).resolve_left h1 |>.resolve_left h2)]
theorem eq_is (h : Rl n d t D) (w : Int32) : isR n d w = miR n t w := by
  unfold isR miR
  have m0 : ¬ mnV 0 0 2 = 0 := by decide
  have m1 : ¬ mnV 1 0 2 = 0 := by decide
  have m2 : ¬ mnV 2 0 2 = 0 := by decide
  have l0 : (0 : Int32) < 2 := by decide
  have l1 : (1 : Int32) < 2 := by decide
  have l2 : ¬ (2 : Int32) < 2 := by decide
  have a1 : asA 1 = 1 := by decide
  have a0 : asA 0 = 0 := by decide
  by_cases h0 : w = 0
  · subst h0
    simp only [if_true, if_neg m0, bt_eq h (Or.inl rfl), if_pos l0, a1, a0]
  · by_cases h1 : w = 1
    · subst h1
      simp only [if_neg h0, if_true, if_neg m1, bt_eq h (Or.inr rfl), if_pos l1, a1, a0]
    · by_cases h2 : w = 2
      · subst h2
        simp only [if_neg h0, if_neg h1, if_true, if_neg m2, bf_eq h, if_neg l2, bt_eq h (Or.inl rfl), inV, a1, a0]
        by_cases b0 : btV n d 0 = 0
        · by_cases b1 : bfV n d = 0
          · simp only [if_pos b0, if_neg n10, if_pos b1]
          · simp only [if_pos b0, if_neg n10, if_neg b1]
        · by_cases b1 : bfV n d = 0
          · simp only [if_neg b0, if_true, if_pos b1]
          · simp only [if_neg b0, if_true, if_neg b1]
      · rw [if_neg h0, if_neg h1, if_neg h2, if_pos (((w3 w).resolve_left h0).resolve_left h1 |>.resolve_left h2)]
/-! count, digest -/
theorem su_cn (h : Rl n d t D) : (suV n d, goV n d) = cnV n t := by
  have h6 := h.1.2
  have : (fun (x : Int32 × Int32) (y : Int32 × Int32) => x = y) (suV n d, goV n d) (cnV n t) := by
    have key : ∀ (x : Int32 × Int32), cnV n t = lp (fun (p : Int32 × Int32) i => lp (fun (p : Int32 × Int32) j => (p.1 + d i j, mx p.2 (d i j))) (i + 1) (n - (i + 1)) p) 0 n (0, 0) := fun _ => by
      unfold cnV
      refine lp_congr n 0 _ (fun i a _ hi => ?_)
      unfold cnO
      refine lp_congr _ _ _ (fun j a hj0 hj => ?_)
      unfold cnI
      rw [h.td (by omega) (by omega), mx_grt]
    rw [key (0, 0)]
    refine Prod.ext ?_ ?_
    · exact lp_rel (fun (x : Int32) (y : Int32 × Int32) => x = y.1) n 0 0 (0, 0) (fun i a b _ _ e => lp_rel (fun (x : Int32) (y : Int32 × Int32) => x = y.1) _ _ a b (fun j a b _ _ e => by show a + d i j = b.1 + d i j; rw [e]) e) rfl
    · exact lp_rel (fun (x : Int32) (y : Int32 × Int32) => x = y.2) n 0 0 (0, 0) (fun i a b _ _ e => lp_rel (fun (x : Int32) (y : Int32 × Int32) => x = y.2) _ _ a b (fun j a b _ _ e => by show mx a (d i j) = mx b.2 (d i j); rw [e]) e) rfl
  exact this
theorem eq_count (h : Rl n d t D) (sr w : Int32) : ctR n d sr w = cnR n t sr w := by
  unfold ctR cnR
  rw [← su_cn h]
/-! the nearest tables -/
def Rm (n : Nat) (mm : Nat → Nat → Int32) (m : Nat → Int32) : Prop := ∀ i j, i < n → j < n → m (6 * i + j) = mm i j
theorem Rm_u2 {mm : Nat → Nat → Int32} {m : Nat → Int32} (h6 : n ≤ 6) (h : Rm n mm m) {i j : Nat} (hi : i < n) (hj : j < n) (x : Int32) : Rm n (u2 mm i j x) (upd m (6 * i + j) x) := by
  intro a b ha hb
  rw [u2_at]
  unfold upd
  by_cases q : a = i ∧ b = j
  · rw [if_pos q, if_pos (by omega)]
  · rw [if_neg q, if_neg (by omega)]; exact h a b ha hb
theorem cp_rows (d md : Nat → Nat → Int32) {a b : Nat} (ha : a < n) (hb : b < n) : cpV n d md a b = d a b := by
  have key : ∀ (mm : Nat → Nat → Int32), (∀ x, x < n → x < 0 → ∀ b, b < n → mm x b = d x b) → ∀ x, x < n → x < 0 + n → ∀ b, b < n → lp (fun mm i => va_up mm i (va_cpy (d i) (mm i) 0 0 n)) 0 n mm x b = d x b := fun mm h0 =>
    lp_ix (fun k (mm : Nat → Nat → Int32) => ∀ x, x < n → x < k → ∀ b, b < n → mm x b = d x b) n 0 mm (fun k mm _ hk hp x hx hxk b hb => by
      by_cases e : x = k
      · subst e
        rw [va_up_self, pk_cpy_in (by omega) (by omega)]
        rw [show 0 + (b - 0) = b by omega]
      · rw [va_up_ne _ _ e]; exact hp x hx (by omega) b hb) h0
  exact key md (fun x _ h => absurd h (by omega)) a ha (by omega) b hb
theorem mk_rows (t md : Nat → Int32) {x : Nat} (hx : x < 36) : mkC t md x = t x := by
  have := lp_fill (h := t) 36 0 md x
  rw [if_pos (by omega)] at this
  exact this
theorem mkJ0 (k i : Nat) (m : Nat → Int32) (j : Nat) : mkJ 0 k i m j = upd m (6 * i + j) (if m (6 * i + j) ≤ grt (m (6 * i + k)) (m (6 * k + j)) then m (6 * i + j) else grt (m (6 * i + k)) (m (6 * k + j))) := if_pos rfl
theorem mkJ1 (k i : Nat) (m : Nat → Int32) (j : Nat) : mkJ 1 k i m j = upd m (6 * i + j) (if m (6 * i + j) ≤ m (6 * i + k) + m (6 * k + j) then m (6 * i + j) else m (6 * i + k) + m (6 * k + j)) := if_neg n10
theorem Rm_cl (h : Rl n d t D) (md : Nat → Nat → Int32) (m : Nat → Int32) {kd z : Int32} (hz : (kd = 0 ∧ z = 1) ∨ (kd = 1 ∧ z = 0)) : Rm n (clV n d md kd) (mkV n t m z) := by
  have h6 := h.1.2
  unfold clV mkV
  refine lp_rel (Rm n) n 0 _ _ (fun k mm m _ hk hr => ?_) (fun i j hi hj => ?_)
  · unfold shV mkK
    refine lp_rel (Rm n) n 0 mm m (fun i mm m _ hi hr => ?_) hr
    unfold mkI
    refine lp_rel (Rm n) n 0 mm m (fun j mm m _ hj hr => ?_) hr
    have e1 := hr i j (by omega) (by omega)
    have e2 := hr i k (by omega) (by omega)
    have e3 := hr k j (by omega) (by omega)
    rcases hz with ⟨rfl, rfl⟩ | ⟨rfl, rfl⟩
    · rw [mkJ1, tog0, mn_le, e1, e2, e3]
      exact Rm_u2 h6 hr (by omega) (by omega) _
    · rw [mkJ0, tog1, mn_le, e1, e2, e3, mx_grt]
      exact Rm_u2 h6 hr (by omega) (by omega) _
  · rw [mk_rows t m (by omega), cp_rows d md hi hj]
    exact h.td (by omega) (by omega)
theorem eq_digest (h : Rl n d t D) (md : Nat → Nat → Int32) (m : Nat → Int32) (sr : Int32) : dgR n d (clV n d md 1) sr = dmR n t (mkV n t m 0) sr := by
  have h6 := h.1.2
  have hm := Rm_cl h md m (Or.inr ⟨rfl, rfl⟩)
  unfold dgR dmR dgH dmH
  show tkV _ _ = tkV _ _
  congr 1
  refine lp_congr n 0 _ (fun i a _ hi => ?_)
  unfold dgO dmO
  refine lp_congr _ _ _ (fun j a _ hj => ?_)
  unfold dgI dmI
  rw [h.td (by omega) (by omega), hm i j (by omega) (by omega)]
  rfl
theorem eq_low (h : Rl n d t D) (md : Nat → Nat → Int32) (m : Nat → Int32) (x y : Int32) : lwR n d md x y = mlR n t m x y := by
  unfold lwR mlR
  rw [kn2_M h.1.1 h.1.2]
  by_cases q : knM n x = 0
  · simp only [if_pos q]
  · by_cases q2 : knM n y = 0
    · simp only [if_neg q, if_pos q2]
    · simp only [if_neg q, if_neg q2]
      exact (Rm_cl h md m (Or.inr ⟨rfl, rfl⟩) _ _ (knM_tn h.1.2 h.1.1 q).2 (knM_tn h.1.2 h.1.1 q2).2).symm
theorem ir_M (r : Int32) : irV r = mnV r 0 1000 := rfl
theorem eq_groups (h : Rl n d t D) (md : Nat → Nat → Int32) (m : Nat → Int32) (r : Int32) : gsR n d md r = mrR n t m r := by
  have hm := Rm_cl h md m (Or.inr ⟨rfl, rfl⟩)
  unfold gsR mrR
  rw [ir_M]
  split
  · rfl
  · unfold grV mrV
    refine lp_congr n 0 0 (fun i a _ hi => ?_)
    unfold mrO grI asA
    rw [lp_congr (f := fun b j => if b = 0 then 0 else if clV n d md 1 i j ≤ r then 0 else 1) (g := mrI (mkV n t m 0) r i) i 0 1 (fun j b _ hj => by unfold mrI; rw [hm i j (by omega) (by omega)])]
end EQB
