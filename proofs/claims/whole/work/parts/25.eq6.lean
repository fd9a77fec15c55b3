/-! drawn -/
def cRb (n A B : Nat) : Bool := !(decide (2 ≤ n) && decide (A < 2 ^ n) && decide (B < 2 ^ n) && decide (A ≠ 0)) || (decide (1 ≤ pcN (A ||| B)) && decide (cR n 0 A B = fct n / pcN (A ||| B) * pcN (A ^^^ B)))
set_option maxRecDepth 100000 in
theorem cR_b : ∀ n, n < 7 → ∀ A, A < 64 → ∀ B, B < 64 → cRb n A B = true := by decide +kernel
theorem cR_f {n A B : Nat} (h2 : 2 ≤ n) (h6 : n ≤ 6) (hA : A < 2 ^ n) (hB : B < 2 ^ n) (h0 : A ≠ 0) : 1 ≤ pcN (A ||| B) ∧ cR n 0 A B = fct n / pcN (A ||| B) * pcN (A ^^^ B) := by
  have hp : 2 ^ n ≤ 64 := Nat.le_trans (Nat.pow_le_pow_right (by decide) h6) (by decide)
  have := cR_b n (by omega) A (by omega) B (by omega)
  unfold cRb at this
  simp only [decide_eq_true h2, decide_eq_true hA, decide_eq_true hB, decide_eq_true h0, Bool.and_self, Bool.not_true, Bool.false_or, Bool.and_eq_true, decide_eq_true_eq] at this
  exact this
set_option maxRecDepth 100000 in
theorem or64 : ∀ A, A < 64 → ∀ B, B < 64 → nI A ||| nI B = nI (A ||| B) ∧ nI A ^^^ nI B = nI (A ^^^ B) ∧ A ||| B < 64 ∧ A ^^^ B < 64 := by decide +kernel
set_option maxRecDepth 100000 in
theorem bct64 : ∀ A, A < 64 → bctV (nI A) = nI (pcN A) ∧ pcN A ≤ 6 := by decide +kernel
section EQD
variable {n : Nat} {d : Nat → Nat → Int32} {t : Nat → Int32} {D : Nat → Nat → Nat}
theorem bit_hi {A k : Nat} (h : A < 2 ^ k) : bitN A k = 0 := by unfold bitN; rw [Nat.div_eq_of_lt h]
theorem rc_M (h6 : n ≤ 6) (d : Nat → Nat → Int32) (i : Nat) (r : Int32) : ∃ A, rcV n d i r = nI A ∧ Ms n d i r A := by
  have key := lp_ix (fun k (b : Int32) => ∃ A, b = nI A ∧ A < 2 ^ k ∧ ∀ q, q < k → (bitN A q = 1 ↔ d i q ≤ r)) (f := rcF d i r) n 0 0 (fun k b _ hk hp => by
    obtain ⟨A, rfl, hA, hq⟩ := hp
    have hp2 : 2 ^ (k + 1) ≤ 64 := Nat.le_trans (Nat.pow_le_pow_right (by decide) (show k + 1 ≤ 6 by omega)) (by decide)
    have hs : 2 ^ (k + 1) = 2 ^ k * 2 := Nat.pow_succ 2 k
    have hb := bit_hi hA
    unfold rcF
    by_cases q9 : r < d i k
    · rw [if_pos q9]
      refine ⟨A, rfl, by omega, fun q hq2 => ?_⟩
      by_cases e : q = k
      · subst e
        rw [hb]
        exact ⟨fun w => absurd w (by decide), fun w => absurd w (Int32.not_le.mpr q9)⟩
      · exact hq q (by omega)
    · rw [if_neg q9, pk_or A (by omega) k (by omega) hb]
      refine ⟨A + 2 ^ k, rfl, by omega, fun q hq2 => ?_⟩
      rw [pk_keep A (by omega) k (by omega) hb q (by omega)]
      by_cases e : q = k
      · subst e
        rw [if_pos rfl]
        exact ⟨fun _ => i_not_lt q9, fun _ => rfl⟩
      · rw [if_neg e]; exact hq q (by omega)) ⟨0, rfl, by decide, fun q h => absurd h (by omega)⟩
  obtain ⟨A, e, hA, hq⟩ := key
  rw [Nat.zero_add] at hA hq
  exact ⟨A, e, hA, hq⟩
theorem eq_drawn (h : Rl n d t D) (od : Nat → Int32) (x y r : Int32) : drR n d x y r = drM n t od x y r := by
  unfold drR drM
  rw [kn2_M h.1.1 h.1.2, ir_M]
  by_cases q : knM n x = 0
  · simp only [if_pos q]
  · by_cases q2 : knM n y = 0
    · simp only [if_neg q, if_pos q2]
    · simp only [if_neg q, if_neg q2]
      by_cases q3 : mnV r 0 1000 = 0
      · simp only [if_pos q3]
      · simp only [if_neg q3]
        have h2 := h.1.1
        have h6 := h.1.2
        have hi := (knM_tn h6 h2 q).2
        have hj := (knM_tn h6 h2 q2).2
        generalize tn x = i at hi
        generalize tn y = j at hj
        have hr := i_not_lt (ir_nn q3)
        have hp : 2 ^ n ≤ 64 := Nat.le_trans (Nat.pow_le_pow_right (by decide) h6) (by decide)
        obtain ⟨A, eA, hA⟩ := rc_M h6 d i r
        obtain ⟨B, eB, hB⟩ := rc_M h6 d j r
        have bA : bitN A i = 1 := (hA.2 i hi).mpr (by rw [h.d0 (by omega)]; exact hr)
        have bB : bitN B j = 1 := (hB.2 j hj).mpr (by rw [h.d0 (by omega)]; exact hr)
        have hA0 : A ≠ 0 := fun e => by rw [e, bit_00] at bA; omega
        obtain ⟨f1, f2⟩ := cR_f h2 h6 hA.1 hB.1 hA0
        have hAl := hA.1
        have hBl := hB.1
        obtain ⟨o1, o2, o3, o4⟩ := or64 A (by omega) B (by omega)
        have hfc := fct_in h6
        have c1 : otV n d i j r = nI (cD A B n 0) := by
          rw [cD_cR h2 h6 hi hj bA bB n 0 (Nat.two_pow_pos n) (by show 0 + n = n; omega) (bit_00 i) (bit_00 j), f2]
          unfold otV
          rw [eA, eB, o1, o2, (bct64 _ o3).1, (bct64 _ o4).1]
          have hpc := (bct64 _ o3).2
          rw [if_neg (fun w => by have := (nI_leI (a := pcN (A ||| B)) (b := 0) (by omega) (by decide)).mp w; omega), pk_div (by omega) (by omega) (by omega), pk_mul]
        have c2 : (drV n t od i j r).1 = nI (cD A B n 0) := by
          unfold drV cD
          refine lp_rel (fun (p : Int32 × (Nat → Int32)) (c : Nat) => p.1 = nI c) (fct n) 0 (0, od) 0 (fun lot p c _ hl e => ?_) rfl
          have hD := Dr.start h2 (lot := lot) (by omega)
          have g1 : goal n t i r lot = gM A n 0 lot := gS_gM h hi hA n lot 0 hD
          have g2 : goal n t j r lot = gM B n 0 lot := gS_gM h hj hB n lot 0 hD
          have l1 := (gM_free h2 h6 hi bA n lot 0 hD (bit_00 i)).1
          have l2 := (gM_free h2 h6 hj bB n lot 0 hD (bit_00 j)).1
          show p.1 + (if nI (goal n t i r lot) = nI (goal n t j r lot) then 0 else 1) = nI (c + _)
          rw [g1, g2, e]
          by_cases w : gM A n 0 lot = gM B n 0 lot
          · rw [if_pos (by rw [w]), if_pos w, Int32.add_zero, Nat.add_zero]
          · rw [if_neg (fun z => w ((nIe (by omega) (by omega)).mp z)), if_neg w]
            exact nI_1 c
        rw [c1, c2]
end EQD
