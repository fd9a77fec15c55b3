/-! Floyd and Warshall's loops, as numbers -/
def stJ (op : Int32 → Int32 → Int32) (k i : Nat) (m : Nat → Int32) (j : Nat) : Nat → Int32 := upd m (6 * i + j) (if m (6 * i + j) ≤ op (m (6 * i + k)) (m (6 * k + j)) then m (6 * i + j) else op (m (6 * i + k)) (m (6 * k + j)))
def fwp (op : Nat → Nat → Nat) (V : Nat → Nat → Nat) (k : Nat) : Nat → Nat → Nat := fun i j => min (V i j) (op (V i k) (V k j))
def FWN (op : Nat → Nat → Nat) (n : Nat) (V : Nat → Nat → Nat) : Nat → Nat → Nat := lp (fwp op) 0 n V
def Rep (n : Nat) (m : Nat → Int32) (V : Nat → Nat → Nat) : Prop := ∀ i j, i < n → j < n → m (6 * i + j) = nI (V i j)
def OpOK (opI : Int32 → Int32 → Int32) (op : Nat → Nat → Nat) (B : Nat) : Prop := (∀ x y, x ≤ B → y ≤ B → opI (nI x) (nI y) = nI (op x y) ∧ op x y < 2 ^ 31) ∧ ∀ x, op x 0 = x ∧ op 0 x = x
def Qf (op : Nat → Nat → Nat) (V : Nat → Nat → Nat) (k i j : Nat) (a b : Nat) : Nat := if a < i ∨ (a = i ∧ b < j) then fwp op V k a b else V a b
theorem nI_min {a b : Nat} (ha : a < 2 ^ 31) (hb : b < 2 ^ 31) : (if nI a ≤ nI b then nI a else nI b) = nI (min a b) := by
  by_cases h : a ≤ b
  · rw [if_pos ((nI_leI ha hb).mpr h), Nat.min_eq_left h]
  · rw [if_neg (fun q => h ((nI_leI ha hb).mp q)), Nat.min_eq_right (by omega)]
theorem fw_step {n B : Nat} {opI : Int32 → Int32 → Int32} {op : Nat → Nat → Nat} (hO : OpOK opI op B) (h6 : n ≤ 6) {V : Nat → Nat → Nat} {k : Nat} (hk : k < n) (h0 : V k k = 0) (hB : ∀ a b, a < n → b < n → V a b ≤ B) (hB2 : B < 2 ^ 31) {i j : Nat} (hi : i < n) (hj : j < n) {m : Nat → Int32} (h : Rep n m (Qf op V k i j)) : Rep n (stJ opI k i m j) (Qf op V k i (j + 1)) := by
  have f1 : fwp op V k i k = V i k := by unfold fwp; rw [h0, (hO.2 _).1]; exact Nat.min_self _
  have f2 : fwp op V k k j = V k j := by unfold fwp; rw [h0, (hO.2 _).2]; exact Nat.min_self _
  have e1 : m (6 * i + j) = nI (V i j) := by rw [h i j hi hj]; unfold Qf; rw [if_neg (by omega)]
  have e2 : m (6 * i + k) = nI (V i k) := by rw [h i k hi hk]; unfold Qf; split; rw [f1]; rfl
  have e3 : m (6 * k + j) = nI (V k j) := by
    rw [h k j hk hj]; unfold Qf
    split
    · rw [f2]
    · rfl
  obtain ⟨o1, o2⟩ := hO.1 (V i k) (V k j) (hB i k hi hk) (hB k j hk hj)
  have hv : (if m (6 * i + j) ≤ opI (m (6 * i + k)) (m (6 * k + j)) then m (6 * i + j) else opI (m (6 * i + k)) (m (6 * k + j))) = nI (fwp op V k i j) := by
    rw [e1, e2, e3, o1, nI_min (by have := hB i j hi hj; omega) o2]; rfl
  intro a b ha hb
  unfold stJ
  rw [hv]
  unfold upd
  by_cases q : a = i ∧ b = j
  · obtain ⟨rfl, rfl⟩ := q
    rw [if_pos rfl]; unfold Qf; rw [if_pos (by omega)]
  · rw [if_neg (by omega), h a b ha hb]
    unfold Qf
    by_cases q2 : a < i ∨ (a = i ∧ b < j)
    · rw [if_pos q2, if_pos (by omega)]
    · rw [if_neg q2, if_neg (by omega)]
theorem fw_pass {n B : Nat} {opI : Int32 → Int32 → Int32} {op : Nat → Nat → Nat} (hO : OpOK opI op B) (h6 : n ≤ 6) {V : Nat → Nat → Nat} {k : Nat} (hk : k < n) (h0 : V k k = 0) (hB : ∀ a b, a < n → b < n → V a b ≤ B) (hB2 : B < 2 ^ 31) {m : Nat → Int32} (h : Rep n m V) : Rep n (lp (fun m i => lp (stJ opI k i) 0 n m) 0 n m) (fwp op V k) := by
  have key := lp_ix (fun i m => Rep n m (Qf op V k i 0)) (f := fun m i => lp (stJ opI k i) 0 n m) n 0 m (fun i m _ hi hp => by
    have r := lp_ix (fun j m => Rep n m (Qf op V k i j)) (f := stJ opI k i) n 0 m (fun j m _ hj hp => fw_step hO h6 hk h0 hB hB2 (by omega) (by omega) hp) hp
    intro a b ha hb
    rw [r a b ha hb]
    unfold Qf
    by_cases q : a < i ∨ (a = i ∧ b < 0 + n)
    · rw [if_pos q, if_pos (by omega)]
    · rw [if_neg q, if_neg (by omega)]) (fun a b ha hb => by rw [h a b ha hb]; unfold Qf; rw [if_neg (by omega)])
  intro a b ha hb
  rw [key a b ha hb]
  unfold Qf
  rw [if_pos (by omega)]
theorem fw_all {n B : Nat} {opI : Int32 → Int32 → Int32} {op : Nat → Nat → Nat} (hO : OpOK opI op B) (h6 : n ≤ 6) (hB2 : B < 2 ^ 31) {V : Nat → Nat → Nat} (h0 : ∀ a, a < n → V a a = 0) (hB : ∀ a b, a < n → b < n → V a b ≤ B) {m : Nat → Int32} (h : Rep n m V) : Rep n (lp (fun m k => lp (fun m i => lp (stJ opI k i) 0 n m) 0 n m) 0 n m) (FWN op n V) := by
  refine (lp_rel (fun (m : Nat → Int32) (V : Nat → Nat → Nat) => Rep n m V ∧ (∀ a, a < n → V a a = 0) ∧ ∀ a b, a < n → b < n → V a b ≤ B) n 0 m V (fun k m V _ hk hr => ?_) ⟨h, h0, hB⟩).1
  refine ⟨fw_pass hO h6 (by omega) (hr.2.1 k (by omega)) hr.2.2 hB2 hr.1, fun a ha => ?_, fun a b ha hb => ?_⟩
  · unfold fwp; rw [hr.2.1 a ha]; exact Nat.zero_min _
  · unfold fwp; exact Nat.le_trans (Nat.min_le_left _ _) (hr.2.2 a b ha hb)
theorem op_sum : OpOK (fun x y => x + y) (fun x y => x + y) 1000000 := ⟨fun x y hx hy => ⟨nI_add x y, show x + y < 2 ^ 31 by omega⟩, fun x => ⟨Nat.add_zero x, Nat.zero_add x⟩⟩
theorem grt_nI {x y : Nat} (hx : x < 2 ^ 31) (hy : y < 2 ^ 31) : grt (nI x) (nI y) = nI (max x y) := by
  unfold grt
  by_cases h : x ≤ y
  · rw [if_pos ((nI_leI hx hy).mpr h), Nat.max_eq_right h]
  · rw [if_neg (fun q => h ((nI_leI hx hy).mp q)), Nat.max_eq_left (by omega)]
theorem op_max : OpOK grt (fun x y => max x y) 1000000 := ⟨fun x y hx hy => ⟨grt_nI (by omega) (by omega), show max x y < 2 ^ 31 by omega⟩, fun x => ⟨Nat.max_zero x, Nat.zero_max x⟩⟩
def Gd (n : Nat) (V : Nat → Nat → Nat) : Prop := (∀ i j, i < n → j < n → V i j = V j i) ∧ (∀ i, i < n → V i i = 0) ∧ ∀ i j, i < n → j < n → i ≠ j → 1 ≤ V i j ∧ V i j ≤ 1000
theorem Gd_fw {n : Nat} {op : Nat → Nat → Nat} (hop : ∀ x y, x ≤ op x y ∧ y ≤ op x y ∧ op x y = op y x) {V : Nat → Nat → Nat} (h : Gd n V) : Gd n (FWN op n V) ∧ ∀ i j, i < n → j < n → FWN op n V i j ≤ V i j := by
  refine lp_inv (fun W => Gd n W ∧ ∀ i j, i < n → j < n → W i j ≤ V i j) n 0 V (fun k W _ hk hr => ?_) ⟨h, fun i j _ _ => Nat.le_refl _⟩
  obtain ⟨⟨s, z, o⟩, le⟩ := hr
  refine ⟨⟨fun i j hi hj => ?_, fun i hi => ?_, fun i j hi hj e => ?_⟩, fun i j hi hj => ?_⟩
  · show min _ _ = min _ _
    rw [s i j hi hj, s i k hi (by omega), s k j (by omega) hj, (hop _ _).2.2]
  · show min _ _ = 0
    rw [z i hi]; exact Nat.zero_min _
  · show 1 ≤ min _ _ ∧ min _ _ ≤ 1000
    refine ⟨?_, Nat.le_trans (Nat.min_le_left _ _) (o i j hi hj e).2⟩
    refine Nat.le_min.mpr ⟨(o i j hi hj e).1, ?_⟩
    by_cases q : i = k
    · subst q; exact Nat.le_trans (o i j hi hj e).1 (hop _ _).2.1
    · exact Nat.le_trans (o i k hi (by omega) q).1 (hop _ _).1
  · exact Nat.le_trans (Nat.min_le_left _ _) (le i j hi hj)
theorem hop_sum : ∀ x y : Nat, x ≤ x + y ∧ y ≤ x + y ∧ x + y = y + x := fun x y => by omega
theorem hop_max : ∀ x y : Nat, x ≤ max x y ∧ y ≤ max x y ∧ max x y = max y x := fun x y => by omega
section EQC
variable {n : Nat} {d : Nat → Nat → Int32} {t : Nat → Int32} {D : Nat → Nat → Nat}
theorem Rl.gd (h : Rl n d t D) : Gd n D := ⟨fun i j hi hj => h.2.2.1 i j (by have := h.1.2; omega) (by have := h.1.2; omega), fun i hi => h.2.2.2.1 i (by have := h.1.2; omega), fun i j hi hj e => h.2.2.2.2 i j (by have := h.1.2; omega) (by have := h.1.2; omega) e⟩
def opz (z : Int32) : Nat → Nat → Nat := if z = 0 then (fun x y => max x y) else (fun x y => x + y)
theorem mk_rep (h : Rl n d t D) (m : Nat → Int32) {z : Int32} (hz : z = 0 ∨ z = 1) : Rep n (mkV n t m z) (FWN (opz z) n D) := by
  have h6 := h.1.2
  have hr : Rep n (mkC t m) D := fun i j hi hj => by rw [mk_rows t m (by omega)]; exact (h.2.1 i j (by omega) (by omega)).2
  have hb : ∀ a b, a < n → b < n → D a b ≤ 1000000 := fun a b ha hb => Nat.le_trans (h.le (by omega) (by omega)) (by decide)
  rcases hz with rfl | rfl
  · have := fw_all op_max h6 (by decide) h.gd.2.1 hb hr
    have e : mkV n t m 0 = lp (fun m k => lp (fun m i => lp (stJ grt k i) 0 n m) 0 n m) 0 n (mkC t m) := by
      unfold mkV
      refine lp_congr n 0 _ (fun k m _ _ => ?_)
      unfold mkK
      refine lp_congr n 0 _ (fun i m _ _ => ?_)
      unfold mkI
      exact lp_congr n 0 _ (fun j m _ _ => mkJ0 k i m j)
    rw [e]; exact this
  · have := fw_all op_sum h6 (by decide) h.gd.2.1 hb hr
    have e : mkV n t m 1 = lp (fun m k => lp (fun m i => lp (stJ (fun x y => x + y) k i) 0 n m) 0 n m) 0 n (mkC t m) := by
      unfold mkV
      refine lp_congr n 0 _ (fun k m _ _ => ?_)
      unfold mkK
      refine lp_congr n 0 _ (fun i m _ _ => ?_)
      unfold mkI
      exact lp_congr n 0 _ (fun j m _ _ => mkJ1 k i m j)
    rw [e]
    show Rep n _ (FWN (if (1 : Int32) = 0 then _ else _) n D)
    rw [if_neg n10]
    exact this
theorem Gd_mk (h : Rl n d t D) {z : Int32} (hz : z = 0 ∨ z = 1) : Gd n (FWN (opz z) n D) ∧ ∀ i j, i < n → j < n → FWN (opz z) n D i j ≤ D i j := by
  rcases hz with rfl | rfl
  · exact Gd_fw hop_max h.gd
  · unfold opz; rw [if_neg n10]; exact Gd_fw hop_sum h.gd
theorem eq_become (h : Rl n d t D) {x : Nat → Nat → Int32} {m : Nat → Int32} {C : Nat → Nat → Nat} (hx : ∀ i j, i < n → j < n → i < j → x i j = nI (C i j) ∧ m (6 * i + j) = nI (C i j) ∧ 1 ≤ C i j ∧ C i j ≤ 1000) : (bcV n d x).1 = (mcV n t m).1 ∧ ∃ D', Rl n (bcV n d x).2 (mcV n t m).2 D' := by
  have h6 := h.1.2
  unfold bcV mcV
  refine lp_rel (fun (p : Int32 × (Nat → Nat → Int32)) (q : Int32 × (Nat → Int32)) => p.1 = q.1 ∧ ∃ D', Rl n p.2 q.2 D') n 0 (0, d) (0, t) (fun i p q _ hi hr => ?_) ⟨rfl, D, h⟩
  unfold mcO
  refine lp_rel (fun (p : Int32 × (Nat → Nat → Int32)) (q : Int32 × (Nat → Int32)) => p.1 = q.1 ∧ ∃ D', Rl n p.2 q.2 D') _ _ p q (fun j p q hj0 hj hr => ?_) hr
  obtain ⟨e1, E, hE⟩ := hr
  obtain ⟨x1, x2, x3, x4⟩ := hx i j (by omega) (by omega) (by omega)
  have etd := hE.td (i := i) (j := j) (by omega) (by omega)
  unfold mcI
  rw [x1, x2, etd]
  by_cases q9 : p.2 i j = nI (C i j)
  · rw [if_pos q9, if_pos q9.symm, Int32.add_zero]
    refine ⟨e1, E, hE.1, fun a b ha hb => ?_, hE.2.2⟩
    refine ⟨(hE.2.1 a b ha hb).1, ?_⟩
    show upd (upd q.2 (6 * i + j) (nI (C i j))) (6 * j + i) (nI (C i j)) (6 * a + b) = _
    rw [upd2_at q.2 (by omega) (by omega) ha hb]
    split
    · next q8 =>
      rw [← q9]
      rcases q8 with ⟨rfl, rfl⟩ | ⟨rfl, rfl⟩
      · exact (hE.2.1 a b ha hb).1
      · rw [hE.sym hb ha]; exact (hE.2.1 a b ha hb).1
    · exact (hE.2.1 a b ha hb).2
  · rw [if_neg q9, if_neg (fun q8 => q9 q8.symm), e1]
    exact ⟨rfl, _, Rl_put hE (by omega) (by omega) (by omega) x3 x4⟩
theorem eq_mend (h : Rl n d t D) (md : Nat → Nat → Int32) (m : Nat → Int32) {kd z : Int32} (hz : (kd = 0 ∧ z = 1) ∨ (kd = 1 ∧ z = 0)) : (bcV n d (clV n d md kd)).1 = (mcV n t (mkV n t m z)).1 ∧ ∃ D', Rl n (bcV n d (clV n d md kd)).2 (mcV n t (mkV n t m z)).2 D' := by
  have hz2 : z = 0 ∨ z = 1 := by rcases hz with ⟨_, e⟩ | ⟨_, e⟩ <;> simp [e]
  have hr := mk_rep h m hz2
  have hm := Rm_cl h md m hz
  have hg := (Gd_mk h hz2).1
  exact eq_become h (C := FWN (opz z) n D) (fun i j hi hj hij => ⟨(hm i j hi hj).symm.trans (hr i j hi hj), hr i j hi hj, hg.2.2 i j hi hj (by omega)⟩)
/-! the gap -/
theorem lp_ge {f : Nat → Nat → Nat} (hf : ∀ A k, A ≤ f A k) : ∀ (c i A : Nat), A ≤ lp f i c A := by
  intro c
  induction c with
  | zero => intro i A; exact Nat.le_refl _
  | succ c ih => intro i A; exact Nat.le_trans (hf A i) (ih (i + 1) (f A i))
theorem lp_hit {f : Nat → Nat → Nat} (hf : ∀ A k, A ≤ f A k) {B k0 : Nat} (hB : ∀ A, B ≤ f A k0) : ∀ (c i A : Nat), i ≤ k0 → k0 < i + c → B ≤ lp f i c A := by
  intro c
  induction c with
  | zero => intro i A h1 h2; omega
  | succ c ih =>
    intro i A h1 h2
    by_cases e : i = k0
    · subst e; exact Nat.le_trans (hB A) (lp_ge hf c (i + 1) (f A i))
    · exact ih (i + 1) (f A i) (by omega) (by omega)
theorem lp_ub {f : Nat → Nat → Nat} {B : Nat} (c i A : Nat) (hs : ∀ A k, i ≤ k → k < i + c → A ≤ B → f A k ≤ B) (hA : A ≤ B) : lp f i c A ≤ B := lp_inv (fun A => A ≤ B) c i A (fun k A h1 h2 h => hs A k h1 h2 h) hA
theorem gap_nat {n : Nat} {g : Nat → Nat → Nat} (hs : ∀ i j, i < n → j < n → g i j = g j i) (h0 : ∀ i, i < n → g i i = 0) : lp (fun A i => lp (fun A j => max A (g i j)) (i + 1) (n - (i + 1)) A) 0 n 0 = lp (fun A i => lp (fun A j => max A (g i j)) 0 n A) 0 n 0 := by
  have m1 : ∀ (lo : Nat → Nat) (ct : Nat → Nat) (A i : Nat), A ≤ lp (fun A j => max A (g i j)) (lo i) (ct i) A := fun lo ct A i => lp_ge (fun A k => Nat.le_max_left _ _) _ _ _
  refine Nat.le_antisymm ?_ ?_
  · refine lp_ub n 0 0 (fun A i _ hi hA => ?_) (Nat.zero_le _)
    refine lp_ub _ _ _ (fun A j hj0 hj hA => Nat.max_le.mpr ⟨hA, ?_⟩) hA
    refine lp_hit (fun A k => m1 (fun _ => 0) (fun _ => n) A k) (k0 := i) (fun A => ?_) n 0 0 (Nat.zero_le _) hi
    exact lp_hit (f := fun A j => max A (g i j)) (fun A k => Nat.le_max_left _ _) (k0 := j) (fun A => Nat.le_max_right _ _) n 0 A (Nat.zero_le _) (by omega)
  · refine lp_ub n 0 0 (fun A i _ hi hA => ?_) (Nat.zero_le _)
    refine lp_ub _ _ _ (fun A j _ hj hA => Nat.max_le.mpr ⟨hA, ?_⟩) hA
    have key : ∀ i j, i < n → j < n → i < j → g i j ≤ lp (fun A i => lp (fun A j => max A (g i j)) (i + 1) (n - (i + 1)) A) 0 n 0 := fun i j hi hj hij =>
      lp_hit (fun A k => m1 (fun k => k + 1) (fun k => n - (k + 1)) A k) (k0 := i) (fun A => lp_hit (f := fun A j => max A (g i j)) (fun A k => Nat.le_max_left _ _) (k0 := j) (fun A => Nat.le_max_right _ _) (n - (i + 1)) (i + 1) A (by omega) (by omega)) n 0 0 (Nat.zero_le _) (by omega)
    rcases Nat.lt_trichotomy i j with q | q | q
    · exact key i j (by omega) (by omega) q
    · subst q; rw [h0 i (by omega)]; exact Nat.zero_le _
    · rw [hs i j (by omega) (by omega)]; exact key j i (by omega) (by omega) q
theorem eq_gap (h : Rl n d t D) (md : Nat → Nat → Int32) (m : Nat → Int32) : gaV n d (clV n d md 1) = maV n t (mkV n t m 0) := by
  have h6 := h.1.2
  have hr := mk_rep h m (Or.inl rfl)
  have hm := Rm_cl h md m (Or.inr ⟨rfl, rfl⟩)
  obtain ⟨hg, hle⟩ := Gd_mk h (z := 0) (Or.inl rfl)
  have hv : ∀ i j, i < n → j < n → d i j - clV n d md 1 i j = nI (D i j - FWN (opz 0) n D i j) := fun i j hi hj => by
    rw [← hm i j hi hj, hr i j hi hj, (h.2.1 i j (by omega) (by omega)).1]
    exact pk_sub (hle i j hi hj)
  have hb : ∀ i j, i < n → j < n → D i j - FWN (opz 0) n D i j < 2 ^ 31 := fun i j hi hj => by have := h.le (i := i) (j := j) (by omega) (by omega); omega
  have mxI : ∀ {x y : Nat}, x < 2 ^ 31 → y < 2 ^ 31 → mx (nI x) (nI y) = nI (max x y) := fun hx hy => by rw [mx_grt]; exact grt_nI hx hy
  have c1 : gaV n d (clV n d md 1) = nI (lp (fun A i => lp (fun A j => max A (D i j - FWN (opz 0) n D i j)) (i + 1) (n - (i + 1)) A) 0 n 0) := by
    unfold gaV
    refine (lp_rel (fun (a : Int32) (A : Nat) => a = nI A ∧ A < 2 ^ 31) n 0 0 0 (fun i a A _ hi hr => ?_) ⟨rfl, by decide⟩).1
    refine lp_rel (fun (a : Int32) (A : Nat) => a = nI A ∧ A < 2 ^ 31) _ _ a A (fun j a A hj0 hj hr => ?_) hr
    obtain ⟨rfl, hA⟩ := hr
    rw [hv i j (by omega) (by omega), mxI hA (hb i j (by omega) (by omega))]
    exact ⟨rfl, Nat.max_lt.mpr ⟨hA, hb i j (by omega) (by omega)⟩⟩
  have c2 : maV n t (mkV n t m 0) = nI (lp (fun A i => lp (fun A j => max A (D i j - FWN (opz 0) n D i j)) 0 n A) 0 n 0) := by
    unfold maV
    refine (lp_rel (fun (a : Int32) (A : Nat) => a = nI A ∧ A < 2 ^ 31) n 0 0 0 (fun i a A _ hi hr => ?_) ⟨rfl, by decide⟩).1
    unfold maO
    refine lp_rel (fun (a : Int32) (A : Nat) => a = nI A ∧ A < 2 ^ 31) n 0 a A (fun j a A hj0 hj hr => ?_) hr
    obtain ⟨rfl, hA⟩ := hr
    unfold maI
    rw [h.td (by omega) (by omega), hm i j (by omega) (by omega), hv i j (by omega) (by omega), grt_nI hA (hb i j (by omega) (by omega))]
    exact ⟨rfl, Nat.max_lt.mpr ⟨hA, hb i j (by omega) (by omega)⟩⟩
  rw [c1, c2, gap_nat (fun i j hi hj => by rw [h.gd.1 i j hi hj, hg.1 i j hi hj]) (fun i hi => by rw [h.gd.2.1 i hi]; exact Nat.zero_sub _)]
end EQC
