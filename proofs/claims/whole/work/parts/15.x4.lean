set_option maxHeartbeats 4000000 in
set_option maxRecDepth 100000 in
theorem c_X4_isKnown (l : Launch) (D : va_G) (cyI cO cyZ : ClassId) (ad : Nat → Nat) (fa : Nat) (n : Nat) (d md : Nat → Nat → Int32) (go ke ha : Nat → Int32) (wy : Nat → Nat → Int32) (ab be sr : Int32) (x : Int32)  : Ct l yX4_isKnown (Cond.code yX4_isKnown cX4_isKnown 2 (some .boolean) :: wsL_law) ({ frames := 0, cells := 0, slots := 0, locals := 0 } : Room) D (ty3 cyI cO cyZ) 29 ad fa [.ref (ad 0), .int x] (cC cyI cO ad n d md go ke ha wy ab be sr) (cC cyI cO ad n d md go ke ha wy ab be sr) (some (.int (kn n x))) := by
  refine Ct.of (by decide) (Nat.le_of_ble_eq_true rfl) ?_
  intro p e s m args below meth c A C hr H locs hW ls hl
  have C : Cx p s m args meth c cX4_isKnown 2 RX4 D (ty3 cyI cO cyZ) fa A := C
  have hx := C.1
  have hb := C.2.1
  have hl : lv_has ls 2 [(0, .ref (ad 0)), (1, .int x)] := hl
  refine lv_iload_n hx hb dX4_isKnown_0 rfl (lv_at hl 1 rfl) ?_
  refine lv_if_lt (tgt := 19) hx hb dX4_isKnown_1 (by decide) (fun c1_1 => ?_) (fun c1_1 => ?_)
  · skip
    refine lv_iconst (v := 0) hx hb dX4_isKnown_19 (by decide) ?_
    exact u_zret C hr hW dX4_isKnown_20 (by first | exact Or.inl rfl | exact Or.inr rfl) (by simp only [kn, if_pos c1_1]) rfl
  · skip
    refine lv_iload_n hx hb dX4_isKnown_4 rfl (lv_at hl 1 rfl) ?_
    refine lv_aload_n hx hb dX4_isKnown_5 rfl (lv_at hl 0 rfl) ?_
    refine u_get C hW inlX4 (by decide) cC_0 rfl 0 (by decide) mw_15 rfl dX4_isKnown_6 ?_
    refine u_getN C hW inlX3 (by decide) cC_1 rfl 2 (by decide) (List.mem_of_getElem? (i := 3) rfl) rfl dX4_isKnown_9 ?_
    refine lv_icmp_ge (tgt := 19) hx hb dX4_isKnown_12 (by decide) (fun c12_2 => ?_) (fun c12_2 => ?_)
    · skip
      refine lv_iconst (v := 0) hx hb dX4_isKnown_19 (by decide) ?_
      exact u_zret C hr hW dX4_isKnown_20 (by first | exact Or.inl rfl | exact Or.inr rfl) (by simp only [kn, if_neg c1_1, if_pos c12_2]) rfl
    · skip
      refine lv_iconst (v := 1) hx hb dX4_isKnown_15 (by decide) ?_
      refine lv_goto (tgt := 20) hx hb dX4_isKnown_16 (by decide) ?_
      exact u_zret C hr hW dX4_isKnown_20 (by first | exact Or.inl rfl | exact Or.inr rfl) (by simp only [kn, if_neg c1_1, if_neg c12_2]) rfl
set_option maxHeartbeats 4000000 in
set_option maxRecDepth 100000 in
theorem c_X4_areKnown (l : Launch) (D : va_G) (cyI cO cyZ : ClassId) (ad : Nat → Nat) (fa : Nat) (n : Nat) (d md : Nat → Nat → Int32) (go ke ha : Nat → Int32) (wy : Nat → Nat → Int32) (ab be sr : Int32) (x y : Int32)  : Ct l yX4_areKnown (Cond.code yX4_areKnown cX4_areKnown 3 (some .boolean) :: wsL_law) ({ frames := 1, cells := 0, slots := 0, locals := 21 } : Room) D (ty3 cyI cO cyZ) 29 ad fa [.ref (ad 0), .int x, .int y] (cC cyI cO ad n d md go ke ha wy ab be sr) (cC cyI cO ad n d md go ke ha wy ab be sr) (some (.int (kn2 n x y))) := by
  refine Ct.of (by decide) (Nat.le_of_ble_eq_true rfl) ?_
  intro p e s m args below meth c A C hr H locs hW ls hl
  have C : Cx p s m args meth c cX4_areKnown 3 RX4 D (ty3 cyI cO cyZ) fa A := C
  have hx := C.1
  have hb := C.2.1
  have hl : lv_has ls 3 [(0, .ref (ad 0)), (1, .int x), (2, .int y)] := hl
  refine lv_aload_n hx hb dX4_areKnown_0 rfl (lv_at hl 0 rfl) ?_
  refine lv_iload_n hx hb dX4_areKnown_1 rfl (lv_at hl 1 rfl) ?_
  refine u_callV (cf' := cC cyI cO ad n d md go ke ha wy ab be sr) (As := [.int x]) (rest := []) (st1 := [.int (kn n x)]) C hW (c_X4_isKnown l D cyI cO cyZ ad fa n d md go ke ha wy ab be sr x ) mv_yX4_isKnown mw_102 rfl ⟨rfl, rfl, Nat.le_of_ble_eq_true rfl, Nat.le_of_ble_eq_true rfl⟩ (by decide) cC_0 rfl rfl hl (Nat.le_of_ble_eq_true rfl) rfl rfl dX4_areKnown_2 (fun H locs hW => ?_)
  refine lv_if_eq (tgt := 20) hx hb dX4_areKnown_5 (by decide) (fun c5_1 => ?_) (fun c5_1 => ?_)
  · skip
    refine lv_iconst (v := 0) hx hb dX4_areKnown_20 (by decide) ?_
    exact u_zret C hr hW dX4_areKnown_21 (by first | exact Or.inl rfl | exact Or.inr rfl) (by simp only [kn2, if_pos c5_1]) rfl
  · skip
    refine lv_aload_n hx hb dX4_areKnown_8 rfl (lv_at hl 0 rfl) ?_
    refine lv_iload_n hx hb dX4_areKnown_9 rfl (lv_at hl 2 rfl) ?_
    refine u_callV (cf' := cC cyI cO ad n d md go ke ha wy ab be sr) (As := [.int y]) (rest := []) (st1 := [.int (kn n y)]) C hW (c_X4_isKnown l D cyI cO cyZ ad fa n d md go ke ha wy ab be sr y ) mv_yX4_isKnown mw_102 rfl ⟨rfl, rfl, Nat.le_of_ble_eq_true rfl, Nat.le_of_ble_eq_true rfl⟩ (by decide) cC_0 rfl rfl hl (Nat.le_of_ble_eq_true rfl) rfl rfl dX4_areKnown_10 (fun H locs hW => ?_)
    refine lv_if_eq (tgt := 20) hx hb dX4_areKnown_13 (by decide) (fun c13_2 => ?_) (fun c13_2 => ?_)
    · skip
      refine lv_iconst (v := 0) hx hb dX4_areKnown_20 (by decide) ?_
      exact u_zret C hr hW dX4_areKnown_21 (by first | exact Or.inl rfl | exact Or.inr rfl) (by simp only [kn2, if_neg c5_1, if_pos c13_2]) rfl
    · skip
      refine lv_iconst (v := 1) hx hb dX4_areKnown_16 (by decide) ?_
      refine lv_goto (tgt := 21) hx hb dX4_areKnown_17 (by decide) ?_
      exact u_zret C hr hW dX4_areKnown_21 (by first | exact Or.inl rfl | exact Or.inr rfl) (by simp only [kn2, if_neg c5_1, if_neg c13_2]) rfl
set_option maxHeartbeats 4000000 in
set_option maxRecDepth 100000 in
theorem c_X4_isCode (l : Launch) (D : va_G) (cyI cO cyZ : ClassId) (ad : Nat → Nat) (fa : Nat) (n : Nat) (d md : Nat → Nat → Int32) (go ke ha : Nat → Int32) (wy : Nat → Nat → Int32) (ab be sr : Int32) (x : Int32) (hn : n ≤ 6) (h2 : 2 ≤ n) : Ct l yX4_isCode (Cond.code yX4_isCode cX4_isCode 2 (some .boolean) :: wsL_law) ({ frames := 1, cells := 0, slots := 0, locals := 22 } : Room) D (ty3 cyI cO cyZ) 29 ad fa [.ref (ad 0), .int x] (cC cyI cO ad n d md go ke ha wy ab be sr) (cC cyI cO ad n d md go ke ha wy ab be sr) (some (.int (icV n x))) := by
  refine Ct.of (by decide) (Nat.le_of_ble_eq_true rfl) ?_
  intro p e s m args below meth c A C hr H locs hW ls hl
  have C : Cx p s m args meth c cX4_isCode 2 RX4 D (ty3 cyI cO cyZ) fa A := C
  have hx := C.1
  have hb := C.2.1
  have hl : lv_has ls 2 [(0, .ref (ad 0)), (1, .int x)] := hl
  refine lv_iload_n hx hb dX4_isCode_0 rfl (lv_at hl 1 rfl) ?_
  refine lv_if_lt (tgt := 19) hx hb dX4_isCode_1 (by decide) (fun c1_1 => ?_) (fun c1_1 => ?_)
  · skip
    refine lv_iconst (v := 0) hx hb dX4_isCode_19 (by decide) ?_
    exact u_zret C hr hW dX4_isCode_20 (by first | exact Or.inl rfl | exact Or.inr rfl) (by simp only [icV, if_pos c1_1]) rfl
  · skip
    refine lv_iload_n hx hb dX4_isCode_4 rfl (lv_at hl 1 rfl) ?_
    refine lv_aload_n hx hb dX4_isCode_5 rfl (lv_at hl 0 rfl) ?_
    refine u_get C hW inlX4 (by decide) cC_0 rfl 1 (by decide) mw_19 rfl dX4_isCode_6 ?_
    refine u_callV (cf' := cC cyI cO ad n d md go ke ha wy ab be sr) (As := []) (rest := [.int x]) (st1 := [.int (nI (cmV n)), .int x]) C hW (c_X1_howMany l D cyI cO cyZ ad fa n d md go ke ha wy ab be sr  (by omega) (by omega)) mv_yX1_howMany mw_274 rfl ⟨rfl, rfl, Nat.le_of_ble_eq_true rfl, Nat.le_of_ble_eq_true rfl⟩ (by decide) cC_16 rfl rfl hl (Nat.le_of_ble_eq_true rfl) rfl rfl dX4_isCode_9 (fun H locs hW => ?_)
    refine lv_icmp_ge (tgt := 19) hx hb dX4_isCode_12 (by decide) (fun c12_2 => ?_) (fun c12_2 => ?_)
    · skip
      refine lv_iconst (v := 0) hx hb dX4_isCode_19 (by decide) ?_
      exact u_zret C hr hW dX4_isCode_20 (by first | exact Or.inl rfl | exact Or.inr rfl) (by simp only [icV, if_neg c1_1, if_pos c12_2]) rfl
    · skip
      refine lv_iconst (v := 1) hx hb dX4_isCode_15 (by decide) ?_
      refine lv_goto (tgt := 20) hx hb dX4_isCode_16 (by decide) ?_
      exact u_zret C hr hW dX4_isCode_20 (by first | exact Or.inl rfl | exact Or.inr rfl) (by simp only [icV, if_neg c1_1, if_neg c12_2]) rfl
set_option maxHeartbeats 4000000 in
set_option maxRecDepth 100000 in
theorem c_X4_isReach (l : Launch) (D : va_G) (cyI cO cyZ : ClassId) (ad : Nat → Nat) (fa : Nat) (n : Nat) (d md : Nat → Nat → Int32) (go ke ha : Nat → Int32) (wy : Nat → Nat → Int32) (ab be sr : Int32) (x : Int32)  : Ct l yX4_isReach (Cond.code yX4_isReach cX4_isReach 1 (some .boolean) :: wsL_law) ({ frames := 0, cells := 0, slots := 0, locals := 0 } : Room) D (ty3 cyI cO cyZ) 29 ad fa [.int x] (cC cyI cO ad n d md go ke ha wy ab be sr) (cC cyI cO ad n d md go ke ha wy ab be sr) (some (.int (irV x))) := by
  refine Ct.of (by decide) (Nat.le_of_ble_eq_true rfl) ?_
  intro p e s m args below meth c A C hr H locs hW ls hl
  have C : Cx p s m args meth c cX4_isReach 1 RX4 D (ty3 cyI cO cyZ) fa A := C
  have hx := C.1
  have hb := C.2.1
  have hl : lv_has ls 1 [(0, .int x)] := hl
  refine lv_iload_n hx hb dX4_isReach_0 rfl (lv_at hl 0 rfl) ?_
  refine lv_if_lt (tgt := 15) hx hb dX4_isReach_1 (by decide) (fun c1_1 => ?_) (fun c1_1 => ?_)
  · skip
    refine lv_iconst (v := 0) hx hb dX4_isReach_15 (by decide) ?_
    exact u_zret C hr hW dX4_isReach_16 (by first | exact Or.inl rfl | exact Or.inr rfl) (by simp only [irV, if_pos c1_1]) rfl
  · skip
    refine lv_iload_n hx hb dX4_isReach_4 rfl (lv_at hl 0 rfl) ?_
    refine lv_sipush (v := 1000) hx hb dX4_isReach_5 (by decide) ?_
    refine lv_icmp_gt (tgt := 15) hx hb dX4_isReach_8 (by decide) (fun c8_2 => ?_) (fun c8_2 => ?_)
    · skip
      refine lv_iconst (v := 0) hx hb dX4_isReach_15 (by decide) ?_
      exact u_zret C hr hW dX4_isReach_16 (by first | exact Or.inl rfl | exact Or.inr rfl) (by simp only [irV, if_neg c1_1, if_pos c8_2]) rfl
    · skip
      refine lv_iconst (v := 1) hx hb dX4_isReach_11 (by decide) ?_
      refine lv_goto (tgt := 16) hx hb dX4_isReach_12 (by decide) ?_
      exact u_zret C hr hW dX4_isReach_16 (by first | exact Or.inl rfl | exact Or.inr rfl) (by simp only [irV, if_neg c1_1, if_neg c8_2]) rfl
set_option maxHeartbeats 4000000 in
set_option maxRecDepth 100000 in
theorem c_X4_isNear (l : Launch) (D : va_G) (cyI cO cyZ : ClassId) (ad : Nat → Nat) (fa : Nat) (n : Nat) (d md : Nat → Nat → Int32) (go ke ha : Nat → Int32) (wy : Nat → Nat → Int32) (ab be sr : Int32)  (hn : n ≤ 6) : Ct l yX4_isNear (Cond.code yX4_isNear cX4_isNear 1 (some .boolean) :: wsL_law) ({ frames := 4, cells := 0, slots := 0, locals := 97 } : Room) D (ty3 cyI cO cyZ) 29 ad fa [.ref (ad 0)] (cC cyI cO ad n d md go ke ha wy ab be sr) (cC cyI cO ad n d md go ke ha wy ab be sr) (some (.int (inV n d))) := by
  refine Ct.of (by decide) (Nat.le_of_ble_eq_true rfl) ?_
  intro p e s m args below meth c A C hr H locs hW ls hl
  have C : Cx p s m args meth c cX4_isNear 1 RX4 D (ty3 cyI cO cyZ) fa A := C
  have hx := C.1
  have hb := C.2.1
  have hl : lv_has ls 1 [(0, .ref (ad 0))] := hl
  refine lv_aload_n hx hb dX4_isNear_0 rfl (lv_at hl 0 rfl) ?_
  refine u_get C hW inlX4 (by decide) cC_0 rfl 0 (by decide) mw_15 rfl dX4_isNear_1 ?_
  refine lv_iconst (v := 0) hx hb dX4_isNear_4 (by decide) ?_
  refine u_callV (cf' := cC cyI cO ad n d md go ke ha wy ab be sr) (As := [.int 0]) (rest := []) (st1 := [.int (btV n d 0)]) C hW (c_X3_brokenThrees l D cyI cO cyZ ad fa n d md go ke ha wy ab be sr 0 (by omega)) mv_yX3_brokenThrees mw_134 rfl ⟨rfl, rfl, Nat.le_of_ble_eq_true rfl, Nat.le_of_ble_eq_true rfl⟩ (by decide) cC_1 rfl rfl hl (Nat.le_of_ble_eq_true rfl) rfl rfl dX4_isNear_5 (fun H locs hW => ?_)
  refine lv_if_ne (tgt := 15) hx hb dX4_isNear_8 (by decide) (fun c8_1 => ?_) (fun c8_1 => ?_)
  · skip
    refine lv_iconst (v := 0) hx hb dX4_isNear_15 (by decide) ?_
    exact u_zret C hr hW dX4_isNear_16 (by first | exact Or.inl rfl | exact Or.inr rfl) (by simp only [inV, if_neg c8_1]) rfl
  · skip
    refine lv_iconst (v := 1) hx hb dX4_isNear_11 (by decide) ?_
    refine lv_goto (tgt := 16) hx hb dX4_isNear_12 (by decide) ?_
    exact u_zret C hr hW dX4_isNear_16 (by first | exact Or.inl rfl | exact Or.inr rfl) (by simp only [inV, if_pos c8_1]) rfl
set_option maxHeartbeats 4000000 in
set_option maxRecDepth 100000 in
theorem c_X4_greatestDivisor (l : Launch) (D : va_G) (cyI cO cyZ : ClassId) (ad : Nat → Nat) (fa : Nat) (n : Nat) (d md : Nat → Nat → Int32) (go ke ha : Nat → Int32) (wy : Nat → Nat → Int32) (ab be sr : Int32) (x y : Int32)  : Ct l yX4_greatestDivisor (Cond.code yX4_greatestDivisor cX4_greatestDivisor 6 (some .int) :: wsL_law) ({ frames := 0, cells := 0, slots := 0, locals := 0 } : Room) D (ty3 cyI cO cyZ) 29 ad fa [.int x, .int y] (cC cyI cO ad n d md go ke ha wy ab be sr) (cC cyI cO ad n d md go ke ha wy ab be sr) (some (.int (gdF 64 x y))) := by
  refine Ct.of (by decide) (Nat.le_of_ble_eq_true rfl) ?_
  intro p e s m args below meth c A C hr H locs hW ls hl
  have C : Cx p s m args meth c cX4_greatestDivisor 6 RX4 D (ty3 cyI cO cyZ) fa A := C
  have hx := C.1
  have hb := C.2.1
  have hl : lv_has ls 6 [(0, .int x), (1, .int y)] := hl
  refine lv_iload_n hx hb dX4_greatestDivisor_0 rfl (lv_at hl 0 rfl) ?_
  refine lv_istore_n (lv' := [(2, .int x), (0, .int x), (1, .int y)]) hx hb dX4_greatestDivisor_1 rfl hl (by decide) rfl (fun ls hl => ?_)
  refine lv_iload_n hx hb dX4_greatestDivisor_2 rfl (lv_at hl 2 rfl) ?_
  refine lv_istore_n (lv' := [(3, .int y), (2, .int x), (0, .int x), (1, .int y)]) hx hb dX4_greatestDivisor_3 rfl hl (by decide) rfl (fun ls hl => ?_)
  refine lv_iconst (v := 0) hx hb dX4_greatestDivisor_4 (by decide) ?_
  refine lv_istore (lv' := [(4, .int 0), (3, .int y), (2, .int x), (0, .int x), (1, .int y)]) hx hb dX4_greatestDivisor_5 hl (by decide) rfl (fun ls hl => ?_)
  have L7 : ∀ (k7 : Nat) (q : Nat) (u : Int32) (v : Int32), q + k7 = 64 → gdF k7 u v = gdF 64 x y → ∀ (H : Heap) (locs : List Loc), Wd D 29 ad (cC cyI cO ad n d md go ke ha wy ab be sr) A s.heap H locs → ∀ ls : Array Slot, lv_has ls 6 [(4, .int (nI q)), (2, .int u), (3, .int v)] → W p l e ({ frames := 0, cells := 0, slots := 0, locals := 0 } : Room) s m args below meth c H locs 0 0 (MQ below (uQ D 29 ad (cC cyI cO ad n d md go ke ha wy ab be sr) (some (.int (gdF 64 x y))) A) args s 0 0 A) (F0 m 7 ls []) := by
    intro k7
    induction k7 with
    | zero =>
      intro q u v hq r7 H locs hW ls hl
      refine lv_iload hx hb dX4_greatestDivisor_7 (lv_at hl 0 rfl) ?_
      refine lv_bipush (v := 64) hx hb dX4_greatestDivisor_9 (by decide) ?_
      refine lv_icmp_ge (tgt := 34) hx hb dX4_greatestDivisor_11 (by decide) (fun _ => ?_) (fun c9 => absurd (show nI 64 ≤ nI q from nI_le (by omega) (by omega)) c9)
      refine lv_iload_n hx hb dX4_greatestDivisor_34 rfl (lv_at hl 1 rfl) ?_
      exact u_iret C hr hW dX4_greatestDivisor_35 (by have h9 := r7; simp only [gdF] at h9; exact h9) rfl
    | succ k7 ih7 =>
      intro q u v hq r7 H locs hW ls hl
      refine lv_iload hx hb dX4_greatestDivisor_7 (lv_at hl 0 rfl) ?_
      refine lv_bipush (v := 64) hx hb dX4_greatestDivisor_9 (by decide) ?_
      refine lv_icmp_ge (tgt := 34) hx hb dX4_greatestDivisor_11 (by decide) (fun c9 => absurd c9 (show ¬ nI 64 ≤ nI q from nI_ge (by omega) (by omega))) (fun _ => ?_)
      refine lv_iload_n hx hb dX4_greatestDivisor_14 rfl (lv_at hl 2 rfl) ?_
      refine lv_if_le (tgt := 34) hx hb dX4_greatestDivisor_15 (by decide) (fun c15_1 => ?_) (fun c15_1 => ?_)
      · skip
        refine lv_iload_n hx hb dX4_greatestDivisor_34 rfl (lv_at hl 1 rfl) ?_
        exact u_iret C hr hW dX4_greatestDivisor_35 (by have h9 := r7; simp only [gdF, if_pos c15_1] at h9; exact h9) rfl
      · skip
        refine lv_iload_n hx hb dX4_greatestDivisor_18 rfl (lv_at hl 1 rfl) ?_
        refine lv_iload_n hx hb dX4_greatestDivisor_19 rfl (lv_at hl 2 rfl) ?_
        refine lv_irem hx hb dX4_greatestDivisor_20 (le0_ne c15_1) ?_
        refine lv_istore (lv' := [(5, .int (u - u / v * v)), (4, .int (nI q)), (2, .int u), (3, .int v)]) hx hb dX4_greatestDivisor_21 hl (by decide) rfl (fun ls hl => ?_)
        refine lv_iload_n hx hb dX4_greatestDivisor_23 rfl (lv_at hl 3 rfl) ?_
        refine lv_istore_n (lv' := [(2, .int v), (5, .int (u - u / v * v)), (4, .int (nI q)), (3, .int v)]) hx hb dX4_greatestDivisor_24 rfl hl (by decide) rfl (fun ls hl => ?_)
        refine lv_iload hx hb dX4_greatestDivisor_25 (lv_at hl 1 rfl) ?_
        refine lv_istore_n (lv' := [(3, .int (u - u / v * v)), (2, .int v), (5, .int (u - u / v * v)), (4, .int (nI q))]) hx hb dX4_greatestDivisor_27 rfl hl (by decide) rfl (fun ls hl => ?_)
        refine lv_iinc (v := nI (q + 1)) (lv' := [(4, .int (nI (q + 1))), (3, .int (u - u / v * v)), (2, .int v), (5, .int (u - u / v * v))]) hx hb dX4_greatestDivisor_28 hl (k := 3) rfl (nI_1 _) (by decide) rfl (fun ls hl => ?_)
        refine lv_goto (tgt := 7) hx hb dX4_greatestDivisor_31 (by decide) ?_
        exact ih7  (q + 1) v (u - u / v * v) (by omega) (by have h9 := r7; simp only [lp_s, lp_0, gdF, if_neg c15_1] at h9; exact h9) H locs hW ls (lv_sub hl [0, 2, 1] rfl)
  exact L7 64 0 x y (by omega) rfl H locs hW ls (lv_sub hl [0, 2, 1] rfl)
set_option maxHeartbeats 4000000 in
set_option maxRecDepth 100000 in
theorem c_X4_points (l : Launch) (D : va_G) (cyI cO cyZ : ClassId) (ad : Nat → Nat) (fa : Nat) (n : Nat) (d md : Nat → Nat → Int32) (go ke ha : Nat → Int32) (wy : Nat → Nat → Int32) (ab be sr : Int32) (x : Int32)  : Ct l yX4_points (Cond.code yX4_points cX4_points 2 (some .int) :: wsL_law) ({ frames := 2, cells := 0, slots := 0, locals := 45 } : Room) D (ty3 cyI cO cyZ) 29 ad fa [.ref (ad 0), .int x] (cC cyI cO ad n d md go ke ha wy ab be sr) (cC cyI cO ad (ptN n x) (ptD d x) md go ke ha wy ab be sr) (some (.int (ptR x))) := by
  refine Ct.of (by decide) (Nat.le_of_ble_eq_true rfl) ?_
  intro p e s m args below meth c A C hr H locs hW ls hl
  have C : Cx p s m args meth c cX4_points 2 RX4 D (ty3 cyI cO cyZ) fa A := C
  have hx := C.1
  have hb := C.2.1
  have hl : lv_has ls 2 [(0, .ref (ad 0)), (1, .int x)] := hl
  refine lv_iload_n hx hb dX4_points_0 rfl (lv_at hl 1 rfl) ?_
  refine lv_iconst (v := 2) hx hb dX4_points_1 (by decide) ?_
  refine lv_icmp_lt (tgt := 11) hx hb dX4_points_2 (by decide) (fun c2_1 => ?_) (fun c2_1 => ?_)
  · skip
    refine lv_bipush (v := -102) hx hb dX4_points_11 (by decide) ?_
    exact u_iret C hr hW dX4_points_13 (by simp only [ptR, if_pos c2_1]) (by simp only [ptN, ptD, if_pos c2_1])
  · skip
    refine lv_iload_n hx hb dX4_points_5 rfl (lv_at hl 1 rfl) ?_
    refine lv_bipush (v := 6) hx hb dX4_points_6 (by decide) ?_
    refine lv_icmp_le (tgt := 14) hx hb dX4_points_8 (by decide) (fun c8_2 => ?_) (fun c8_2 => ?_)
    · skip
      refine lv_aload_n hx hb dX4_points_14 rfl (lv_at hl 0 rfl) ?_
      refine u_get C hW inlX4 (by decide) cC_0 rfl 0 (by decide) mw_15 rfl dX4_points_15 ?_
      refine lv_iload_n hx hb dX4_points_18 rfl (lv_at hl 1 rfl) ?_
      refine u_top (show x = nI (tn x) from pt_tn c2_1) ?_
      refine u_callV (cf' := cC cyI cO ad (tn x) (beginV d) md go ke ha wy ab be sr) (As := [.int (nI (tn x))]) (rest := []) (st1 := []) C hW (c_X3_begin l D cyI cO cyZ ad fa n d md go ke ha wy ab be sr (tn x) ) mv_yX3_begin mw_58 rfl ⟨rfl, rfl, Nat.le_of_ble_eq_true rfl, Nat.le_of_ble_eq_true rfl⟩ (by decide) cC_1 rfl rfl hl (Nat.le_of_ble_eq_true rfl) rfl rfl dX4_points_19 (fun H locs hW => ?_)
      refine lv_iload_n hx hb dX4_points_22 rfl (lv_at hl 1 rfl) ?_
      exact u_iret C hr hW dX4_points_23 (by simp only [ptR, if_neg c2_1, if_pos c8_2]) (by simp only [ptN, ptD, if_neg c2_1, if_pos c8_2])
    · skip
      refine lv_bipush (v := -102) hx hb dX4_points_11 (by decide) ?_
      exact u_iret C hr hW dX4_points_13 (by simp only [ptR, if_neg c2_1, if_neg c8_2]) (by simp only [ptN, ptD, if_neg c2_1, if_neg c8_2])
set_option maxHeartbeats 4000000 in
set_option maxRecDepth 100000 in
theorem c_X4_set (l : Launch) (D : va_G) (cyI cO cyZ : ClassId) (ad : Nat → Nat) (fa : Nat) (n : Nat) (d md : Nat → Nat → Int32) (go ke ha : Nat → Int32) (wy : Nat → Nat → Int32) (ab be sr : Int32) (x y v : Int32) (hn : n ≤ 6) : Ct l yX4_set (Cond.code yX4_set cX4_set 5 (some .int) :: wsL_law) ({ frames := 2, cells := 0, slots := 0, locals := 43 } : Room) D (ty3 cyI cO cyZ) 29 ad fa [.ref (ad 0), .int x, .int y, .int v] (cC cyI cO ad n d md go ke ha wy ab be sr) (cC cyI cO ad n (stD n d x y v) md go ke ha wy ab be sr) (some (.int (stR n d x y v))) := by
  refine Ct.of (by decide) (Nat.le_of_ble_eq_true rfl) ?_
  intro p e s m args below meth c A C hr H locs hW ls hl
  have C : Cx p s m args meth c cX4_set 5 RX4 D (ty3 cyI cO cyZ) fa A := C
  have hx := C.1
  have hb := C.2.1
  have hl : lv_has ls 5 [(0, .ref (ad 0)), (1, .int x), (2, .int y), (3, .int v)] := hl
  refine lv_aload_n hx hb dX4_set_0 rfl (lv_at hl 0 rfl) ?_
  refine lv_iload_n hx hb dX4_set_1 rfl (lv_at hl 1 rfl) ?_
  refine lv_iload_n hx hb dX4_set_2 rfl (lv_at hl 2 rfl) ?_
  refine u_callV (cf' := cC cyI cO ad n d md go ke ha wy ab be sr) (As := [.int x, .int y]) (rest := []) (st1 := [.int (kn2 n x y)]) C hW (c_X4_areKnown l D cyI cO cyZ ad fa n d md go ke ha wy ab be sr x y ) mv_yX4_areKnown mw_98 rfl ⟨rfl, rfl, Nat.le_of_ble_eq_true rfl, Nat.le_of_ble_eq_true rfl⟩ (by decide) cC_0 rfl rfl hl (Nat.le_of_ble_eq_true rfl) rfl rfl dX4_set_3 (fun H locs hW => ?_)
  refine lv_if_eq (tgt := 14) hx hb dX4_set_6 (by decide) (fun c6_1 => ?_) (fun c6_1 => ?_)
  · skip
    refine lv_bipush (v := -101) hx hb dX4_set_14 (by decide) ?_
    exact u_iret C hr hW dX4_set_16 (by simp only [stR, if_pos c6_1]) (by simp only [stD, if_pos c6_1])
  · skip
    refine lv_iload_n hx hb dX4_set_9 rfl (lv_at hl 1 rfl) ?_
    refine lv_iload_n hx hb dX4_set_10 rfl (lv_at hl 2 rfl) ?_
    refine lv_icmp_ne (tgt := 17) hx hb dX4_set_11 (by decide) (fun c11_2 => ?_) (fun c11_2 => ?_)
    · skip
      refine lv_iload_n hx hb dX4_set_17 rfl (lv_at hl 3 rfl) ?_
      refine lv_iconst (v := 1) hx hb dX4_set_18 (by decide) ?_
      refine lv_icmp_lt (tgt := 29) hx hb dX4_set_19 (by decide) (fun c19_3 => ?_) (fun c19_3 => ?_)
      · skip
        refine lv_bipush (v := -102) hx hb dX4_set_29 (by decide) ?_
        exact u_iret C hr hW dX4_set_31 (by simp only [stR, if_neg c6_1, if_neg c11_2, if_pos c19_3]) (by simp only [stD, if_neg c6_1, if_neg c11_2, if_pos c19_3])
      · skip
        refine lv_iload_n hx hb dX4_set_22 rfl (lv_at hl 3 rfl) ?_
        refine lv_sipush (v := 1000) hx hb dX4_set_23 (by decide) ?_
        refine lv_icmp_le (tgt := 32) hx hb dX4_set_26 (by decide) (fun c26_4 => ?_) (fun c26_4 => ?_)
        · skip
          have hk1 := (kn2_tn hn c6_1).1.2
          have hk2 := (kn2_tn hn c6_1).2.2
          refine lv_aload_n hx hb dX4_set_32 rfl (lv_at hl 0 rfl) ?_
          refine u_get C hW inlX4 (by decide) cC_0 rfl 0 (by decide) mw_15 rfl dX4_set_33 ?_
          refine u_getN C hW inlX3 (by decide) cC_1 rfl 0 (by decide) (List.mem_of_getElem? (i := 4) rfl) rfl dX4_set_36 ?_
          refine lv_iload_n hx hb dX4_set_39 rfl (lv_at hl 1 rfl) ?_
          refine u_top (show x = nI (tn x) from (kn2_tn hn c6_1).1.1) ?_
          refine u_aald C hW (by decide) cC_2 1 rfl (tn x) rfl (by omega) (by decide) (cC_outer (by omega)) dX4_set_40 ?_
          refine lv_iload_n hx hb dX4_set_41 rfl (lv_at hl 2 rfl) ?_
          refine u_top (show y = nI (tn y) from (kn2_tn hn c6_1).2.1) ?_
          refine u_iald C hW (by omega) (cC_d (by omega)) 0 rfl (tn y) rfl (by omega) (by decide) dX4_set_42 ?_
          refine lv_istore (lv' := [(4, .int (d (tn x) (tn y))), (0, .ref (ad 0)), (1, .int x), (2, .int y), (3, .int v)]) hx hb dX4_set_43 hl (by decide) rfl (fun ls hl => ?_)
          refine lv_aload_n hx hb dX4_set_45 rfl (lv_at hl 1 rfl) ?_
          refine u_get C hW inlX4 (by decide) cC_0 rfl 0 (by decide) mw_15 rfl dX4_set_46 ?_
          refine lv_iload_n hx hb dX4_set_49 rfl (lv_at hl 2 rfl) ?_
          refine u_top (show x = nI (tn x) from (kn2_tn hn c6_1).1.1) ?_
          refine lv_iload_n hx hb dX4_set_50 rfl (lv_at hl 3 rfl) ?_
          refine u_top (show y = nI (tn y) from (kn2_tn hn c6_1).2.1) ?_
          refine lv_iload_n hx hb dX4_set_51 rfl (lv_at hl 4 rfl) ?_
          refine u_callV (cf' := cC cyI cO ad n (putV d (tn x) (tn y) v) md go ke ha wy ab be sr) (As := [.int (nI (tn x)), .int (nI (tn y)), .int v]) (rest := []) (st1 := []) C hW (c_X3_put l D cyI cO cyZ ad fa n d md go ke ha wy ab be sr (tn x) (tn y) v (by omega) (by omega)) mv_yX3_put mw_106 rfl ⟨rfl, rfl, Nat.le_of_ble_eq_true rfl, Nat.le_of_ble_eq_true rfl⟩ (by decide) cC_1 rfl rfl hl (Nat.le_of_ble_eq_true rfl) rfl rfl dX4_set_52 (fun H locs hW => ?_)
          refine lv_iload hx hb dX4_set_55 (lv_at hl 0 rfl) ?_
          exact u_iret C hr hW dX4_set_57 (by simp only [stR, if_neg c6_1, if_neg c11_2, if_neg c19_3, if_pos c26_4]) (by simp only [stD, if_neg c6_1, if_neg c11_2, if_neg c19_3, if_pos c26_4])
        · skip
          refine lv_bipush (v := -102) hx hb dX4_set_29 (by decide) ?_
          exact u_iret C hr hW dX4_set_31 (by simp only [stR, if_neg c6_1, if_neg c11_2, if_neg c19_3, if_neg c26_4]) (by simp only [stD, if_neg c6_1, if_neg c11_2, if_neg c19_3, if_neg c26_4])
    · skip
      refine lv_bipush (v := -101) hx hb dX4_set_14 (by decide) ?_
      exact u_iret C hr hW dX4_set_16 (by simp only [stR, if_neg c6_1, if_pos c11_2]) (by simp only [stD, if_neg c6_1, if_pos c11_2])
set_option maxHeartbeats 4000000 in
set_option maxRecDepth 100000 in
theorem c_X4_get (l : Launch) (D : va_G) (cyI cO cyZ : ClassId) (ad : Nat → Nat) (fa : Nat) (n : Nat) (d md : Nat → Nat → Int32) (go ke ha : Nat → Int32) (wy : Nat → Nat → Int32) (ab be sr : Int32) (x y : Int32) (hn : n ≤ 6) : Ct l yX4_get (Cond.code yX4_get cX4_get 3 (some .int) :: wsL_law) ({ frames := 2, cells := 0, slots := 0, locals := 43 } : Room) D (ty3 cyI cO cyZ) 29 ad fa [.ref (ad 0), .int x, .int y] (cC cyI cO ad n d md go ke ha wy ab be sr) (cC cyI cO ad n d md go ke ha wy ab be sr) (some (.int (gtR n d x y))) := by
  refine Ct.of (by decide) (Nat.le_of_ble_eq_true rfl) ?_
  intro p e s m args below meth c A C hr H locs hW ls hl
  have C : Cx p s m args meth c cX4_get 3 RX4 D (ty3 cyI cO cyZ) fa A := C
  have hx := C.1
  have hb := C.2.1
  have hl : lv_has ls 3 [(0, .ref (ad 0)), (1, .int x), (2, .int y)] := hl
  refine lv_aload_n hx hb dX4_get_0 rfl (lv_at hl 0 rfl) ?_
  refine lv_iload_n hx hb dX4_get_1 rfl (lv_at hl 1 rfl) ?_
  refine lv_iload_n hx hb dX4_get_2 rfl (lv_at hl 2 rfl) ?_
  refine u_callV (cf' := cC cyI cO ad n d md go ke ha wy ab be sr) (As := [.int x, .int y]) (rest := []) (st1 := [.int (kn2 n x y)]) C hW (c_X4_areKnown l D cyI cO cyZ ad fa n d md go ke ha wy ab be sr x y ) mv_yX4_areKnown mw_98 rfl ⟨rfl, rfl, Nat.le_of_ble_eq_true rfl, Nat.le_of_ble_eq_true rfl⟩ (by decide) cC_0 rfl rfl hl (Nat.le_of_ble_eq_true rfl) rfl rfl dX4_get_3 (fun H locs hW => ?_)
  refine lv_if_eq (tgt := 23) hx hb dX4_get_6 (by decide) (fun c6_1 => ?_) (fun c6_1 => ?_)
  · skip
    refine lv_bipush (v := -101) hx hb dX4_get_23 (by decide) ?_
    exact u_iret C hr hW dX4_get_25 (by simp only [gtR, if_pos c6_1]) rfl
  · skip
    have hk1 := (kn2_tn hn c6_1).1.2
    have hk2 := (kn2_tn hn c6_1).2.2
    refine lv_aload_n hx hb dX4_get_9 rfl (lv_at hl 0 rfl) ?_
    refine u_get C hW inlX4 (by decide) cC_0 rfl 0 (by decide) mw_15 rfl dX4_get_10 ?_
    refine u_getN C hW inlX3 (by decide) cC_1 rfl 0 (by decide) (List.mem_of_getElem? (i := 4) rfl) rfl dX4_get_13 ?_
    refine lv_iload_n hx hb dX4_get_16 rfl (lv_at hl 1 rfl) ?_
    refine u_top (show x = nI (tn x) from (kn2_tn hn c6_1).1.1) ?_
    refine u_aald C hW (by decide) cC_2 1 rfl (tn x) rfl (by omega) (by decide) (cC_outer (by omega)) dX4_get_17 ?_
    refine lv_iload_n hx hb dX4_get_18 rfl (lv_at hl 2 rfl) ?_
    refine u_top (show y = nI (tn y) from (kn2_tn hn c6_1).2.1) ?_
    refine u_iald C hW (by omega) (cC_d (by omega)) 0 rfl (tn y) rfl (by omega) (by decide) dX4_get_19 ?_
    refine lv_goto (tgt := 25) hx hb dX4_get_20 (by decide) ?_
    exact u_iret C hr hW dX4_get_25 (by simp only [gtR, if_neg c6_1]) rfl
set_option maxHeartbeats 4000000 in
set_option maxRecDepth 100000 in
theorem c_X4_is (l : Launch) (D : va_G) (cyI cO cyZ : ClassId) (ad : Nat → Nat) (fa : Nat) (n : Nat) (d md : Nat → Nat → Int32) (go ke ha : Nat → Int32) (wy : Nat → Nat → Int32) (ab be sr : Int32) (w : Int32) (hn : n ≤ 6) : Ct l yX4_is (Cond.code yX4_is cX4_is 2 (some .int) :: wsL_law) ({ frames := 5, cells := 0, slots := 0, locals := 117 } : Room) D (ty3 cyI cO cyZ) 29 ad fa [.ref (ad 0), .int w] (cC cyI cO ad n d md go ke ha wy ab be sr) (cC cyI cO ad n d md go ke ha wy ab be sr) (some (.int (isR n d w))) := by
  refine Ct.of (by decide) (Nat.le_of_ble_eq_true rfl) ?_
  intro p e s m args below meth c A C hr H locs hW ls hl
  have C : Cx p s m args meth c cX4_is 2 RX4 D (ty3 cyI cO cyZ) fa A := C
  have hx := C.1
  have hb := C.2.1
  have hl : lv_has ls 2 [(0, .ref (ad 0)), (1, .int w)] := hl
  refine lv_iload_n hx hb dX4_is_0 rfl (lv_at hl 1 rfl) ?_
  refine lv_if_eq (tgt := 9) hx hb dX4_is_1 (by decide) (fun c1_1 => ?_) (fun c1_1 => ?_)
  · skip
    refine lv_aload_n hx hb dX4_is_9 rfl (lv_at hl 0 rfl) ?_
    refine u_get C hW inlX4 (by decide) cC_0 rfl 0 (by decide) mw_15 rfl dX4_is_10 ?_
    refine lv_iload_n hx hb dX4_is_13 rfl (lv_at hl 1 rfl) ?_
    refine u_callV (cf' := cC cyI cO ad n d md go ke ha wy ab be sr) (As := [.int w]) (rest := []) (st1 := [.int (btV n d w)]) C hW (c_X3_brokenThrees l D cyI cO cyZ ad fa n d md go ke ha wy ab be sr w (by omega)) mv_yX3_brokenThrees mw_134 rfl ⟨rfl, rfl, Nat.le_of_ble_eq_true rfl, Nat.le_of_ble_eq_true rfl⟩ (by decide) cC_1 rfl rfl hl (Nat.le_of_ble_eq_true rfl) rfl rfl dX4_is_14 (fun H locs hW => ?_)
    refine lv_if_ne (tgt := 24) hx hb dX4_is_17 (by decide) (fun c17_2 => ?_) (fun c17_2 => ?_)
    · skip
      refine lv_iconst (v := 0) hx hb dX4_is_24 (by decide) ?_
      refine u_callS (cf' := cC cyI cO ad n d md go ke ha wy ab be sr) (As := [.int 0]) (rest := []) (st1 := [.int (asA 0)]) C hW (c_X4_asAnswer l D cyI cO cyZ ad fa n d md go ke ha wy ab be sr 0 ) ms_yX4_asAnswer mw_149 rfl ⟨rfl, rfl, Nat.le_of_ble_eq_true rfl, Nat.le_of_ble_eq_true rfl⟩ hl (Nat.le_of_ble_eq_true rfl) rfl rfl dX4_is_25 (fun H locs hW => ?_)
      exact u_iret C hr hW dX4_is_28 (by simp only [isR, if_pos c1_1, if_neg c17_2]) rfl
    · skip
      refine lv_iconst (v := 1) hx hb dX4_is_20 (by decide) ?_
      refine lv_goto (tgt := 25) hx hb dX4_is_21 (by decide) ?_
      refine u_callS (cf' := cC cyI cO ad n d md go ke ha wy ab be sr) (As := [.int 1]) (rest := []) (st1 := [.int (asA 1)]) C hW (c_X4_asAnswer l D cyI cO cyZ ad fa n d md go ke ha wy ab be sr 1 ) ms_yX4_asAnswer mw_149 rfl ⟨rfl, rfl, Nat.le_of_ble_eq_true rfl, Nat.le_of_ble_eq_true rfl⟩ hl (Nat.le_of_ble_eq_true rfl) rfl rfl dX4_is_25 (fun H locs hW => ?_)
      exact u_iret C hr hW dX4_is_28 (by simp only [isR, if_pos c1_1, if_pos c17_2]) rfl
  · skip
    refine lv_iload_n hx hb dX4_is_4 rfl (lv_at hl 1 rfl) ?_
    refine lv_iconst (v := 1) hx hb dX4_is_5 (by decide) ?_
    refine lv_icmp_ne (tgt := 29) hx hb dX4_is_6 (by decide) (fun c6_3 => ?_) (fun c6_3 => ?_)
    · skip
      refine lv_iload_n hx hb dX4_is_29 rfl (lv_at hl 1 rfl) ?_
      refine lv_iconst (v := 2) hx hb dX4_is_30 (by decide) ?_
      refine lv_icmp_ne (tgt := 60) hx hb dX4_is_31 (by decide) (fun c31_4 => ?_) (fun c31_4 => ?_)
      · skip
        refine lv_bipush (v := -102) hx hb dX4_is_60 (by decide) ?_
        exact u_iret C hr hW dX4_is_62 (by simp only [isR, if_neg c1_1, if_neg c6_3, if_neg c31_4]) rfl
      · skip
        refine lv_aload_n hx hb dX4_is_34 rfl (lv_at hl 0 rfl) ?_
        refine u_callV (cf' := cC cyI cO ad n d md go ke ha wy ab be sr) (As := []) (rest := []) (st1 := [.int (inV n d)]) C hW (c_X4_isNear l D cyI cO cyZ ad fa n d md go ke ha wy ab be sr  (by omega)) mv_yX4_isNear mw_152 rfl ⟨rfl, rfl, Nat.le_of_ble_eq_true rfl, Nat.le_of_ble_eq_true rfl⟩ (by decide) cC_0 rfl rfl hl (Nat.le_of_ble_eq_true rfl) rfl rfl dX4_is_35 (fun H locs hW => ?_)
        refine lv_if_eq (tgt := 55) hx hb dX4_is_38 (by decide) (fun c38_5 => ?_) (fun c38_5 => ?_)
        · skip
          refine lv_iconst (v := 0) hx hb dX4_is_55 (by decide) ?_
          refine u_callS (cf' := cC cyI cO ad n d md go ke ha wy ab be sr) (As := [.int 0]) (rest := []) (st1 := [.int (asA 0)]) C hW (c_X4_asAnswer l D cyI cO cyZ ad fa n d md go ke ha wy ab be sr 0 ) ms_yX4_asAnswer mw_149 rfl ⟨rfl, rfl, Nat.le_of_ble_eq_true rfl, Nat.le_of_ble_eq_true rfl⟩ hl (Nat.le_of_ble_eq_true rfl) rfl rfl dX4_is_56 (fun H locs hW => ?_)
          exact u_iret C hr hW dX4_is_59 (by simp only [isR, if_neg c1_1, if_neg c6_3, if_pos c31_4, if_pos c38_5]) rfl
        · skip
          refine lv_aload_n hx hb dX4_is_41 rfl (lv_at hl 0 rfl) ?_
          refine u_get C hW inlX4 (by decide) cC_0 rfl 0 (by decide) mw_15 rfl dX4_is_42 ?_
          refine u_callV (cf' := cC cyI cO ad n d md go ke ha wy ab be sr) (As := []) (rest := []) (st1 := [.int (bfV n d)]) C hW (c_X3_brokenFours l D cyI cO cyZ ad fa n d md go ke ha wy ab be sr  (by omega)) mv_yX3_brokenFours mw_156 rfl ⟨rfl, rfl, Nat.le_of_ble_eq_true rfl, Nat.le_of_ble_eq_true rfl⟩ (by decide) cC_1 rfl rfl hl (Nat.le_of_ble_eq_true rfl) rfl rfl dX4_is_45 (fun H locs hW => ?_)
          refine lv_if_ne (tgt := 55) hx hb dX4_is_48 (by decide) (fun c48_6 => ?_) (fun c48_6 => ?_)
          · skip
            refine lv_iconst (v := 0) hx hb dX4_is_55 (by decide) ?_
            refine u_callS (cf' := cC cyI cO ad n d md go ke ha wy ab be sr) (As := [.int 0]) (rest := []) (st1 := [.int (asA 0)]) C hW (c_X4_asAnswer l D cyI cO cyZ ad fa n d md go ke ha wy ab be sr 0 ) ms_yX4_asAnswer mw_149 rfl ⟨rfl, rfl, Nat.le_of_ble_eq_true rfl, Nat.le_of_ble_eq_true rfl⟩ hl (Nat.le_of_ble_eq_true rfl) rfl rfl dX4_is_56 (fun H locs hW => ?_)
            exact u_iret C hr hW dX4_is_59 (by simp only [isR, if_neg c1_1, if_neg c6_3, if_pos c31_4, if_neg c38_5, if_neg c48_6]) rfl
          · skip
            refine lv_iconst (v := 1) hx hb dX4_is_51 (by decide) ?_
            refine lv_goto (tgt := 56) hx hb dX4_is_52 (by decide) ?_
            refine u_callS (cf' := cC cyI cO ad n d md go ke ha wy ab be sr) (As := [.int 1]) (rest := []) (st1 := [.int (asA 1)]) C hW (c_X4_asAnswer l D cyI cO cyZ ad fa n d md go ke ha wy ab be sr 1 ) ms_yX4_asAnswer mw_149 rfl ⟨rfl, rfl, Nat.le_of_ble_eq_true rfl, Nat.le_of_ble_eq_true rfl⟩ hl (Nat.le_of_ble_eq_true rfl) rfl rfl dX4_is_56 (fun H locs hW => ?_)
            exact u_iret C hr hW dX4_is_59 (by simp only [isR, if_neg c1_1, if_neg c6_3, if_pos c31_4, if_neg c38_5, if_pos c48_6]) rfl
    · skip
      refine lv_aload_n hx hb dX4_is_9 rfl (lv_at hl 0 rfl) ?_
      refine u_get C hW inlX4 (by decide) cC_0 rfl 0 (by decide) mw_15 rfl dX4_is_10 ?_
      refine lv_iload_n hx hb dX4_is_13 rfl (lv_at hl 1 rfl) ?_
      refine u_callV (cf' := cC cyI cO ad n d md go ke ha wy ab be sr) (As := [.int w]) (rest := []) (st1 := [.int (btV n d w)]) C hW (c_X3_brokenThrees l D cyI cO cyZ ad fa n d md go ke ha wy ab be sr w (by omega)) mv_yX3_brokenThrees mw_134 rfl ⟨rfl, rfl, Nat.le_of_ble_eq_true rfl, Nat.le_of_ble_eq_true rfl⟩ (by decide) cC_1 rfl rfl hl (Nat.le_of_ble_eq_true rfl) rfl rfl dX4_is_14 (fun H locs hW => ?_)
      refine lv_if_ne (tgt := 24) hx hb dX4_is_17 (by decide) (fun c17_7 => ?_) (fun c17_7 => ?_)
      · skip
        refine lv_iconst (v := 0) hx hb dX4_is_24 (by decide) ?_
        refine u_callS (cf' := cC cyI cO ad n d md go ke ha wy ab be sr) (As := [.int 0]) (rest := []) (st1 := [.int (asA 0)]) C hW (c_X4_asAnswer l D cyI cO cyZ ad fa n d md go ke ha wy ab be sr 0 ) ms_yX4_asAnswer mw_149 rfl ⟨rfl, rfl, Nat.le_of_ble_eq_true rfl, Nat.le_of_ble_eq_true rfl⟩ hl (Nat.le_of_ble_eq_true rfl) rfl rfl dX4_is_25 (fun H locs hW => ?_)
        exact u_iret C hr hW dX4_is_28 (by simp only [isR, if_neg c1_1, if_pos c6_3, if_neg c17_7]) rfl
      · skip
        refine lv_iconst (v := 1) hx hb dX4_is_20 (by decide) ?_
        refine lv_goto (tgt := 25) hx hb dX4_is_21 (by decide) ?_
        refine u_callS (cf' := cC cyI cO ad n d md go ke ha wy ab be sr) (As := [.int 1]) (rest := []) (st1 := [.int (asA 1)]) C hW (c_X4_asAnswer l D cyI cO cyZ ad fa n d md go ke ha wy ab be sr 1 ) ms_yX4_asAnswer mw_149 rfl ⟨rfl, rfl, Nat.le_of_ble_eq_true rfl, Nat.le_of_ble_eq_true rfl⟩ hl (Nat.le_of_ble_eq_true rfl) rfl rfl dX4_is_25 (fun H locs hW => ?_)
        exact u_iret C hr hW dX4_is_28 (by simp only [isR, if_neg c1_1, if_pos c6_3, if_pos c17_7]) rfl
set_option maxHeartbeats 4000000 in
set_option maxRecDepth 100000 in
theorem c_X4_broken (l : Launch) (D : va_G) (cyI cO cyZ : ClassId) (ad : Nat → Nat) (fa : Nat) (n : Nat) (d md : Nat → Nat → Int32) (go ke ha : Nat → Int32) (wy : Nat → Nat → Int32) (ab be sr : Int32) (w : Int32) (hn : n ≤ 6) : Ct l yX4_broken (Cond.code yX4_broken cX4_broken 2 (some .int) :: wsL_law) ({ frames := 4, cells := 0, slots := 0, locals := 98 } : Room) D (ty3 cyI cO cyZ) 29 ad fa [.ref (ad 0), .int w] (cC cyI cO ad n d md go ke ha wy ab be sr) (cC cyI cO ad n d md go ke ha wy ab be sr) (some (.int (bkR n d w))) := by
  refine Ct.of (by decide) (Nat.le_of_ble_eq_true rfl) ?_
  intro p e s m args below meth c A C hr H locs hW ls hl
  have C : Cx p s m args meth c cX4_broken 2 RX4 D (ty3 cyI cO cyZ) fa A := C
  have hx := C.1
  have hb := C.2.1
  have hl : lv_has ls 2 [(0, .ref (ad 0)), (1, .int w)] := hl
  refine lv_iload_n hx hb dX4_broken_0 rfl (lv_at hl 1 rfl) ?_
  refine lv_if_eq (tgt := 9) hx hb dX4_broken_1 (by decide) (fun c1_1 => ?_) (fun c1_1 => ?_)
  · skip
    refine lv_aload_n hx hb dX4_broken_9 rfl (lv_at hl 0 rfl) ?_
    refine u_get C hW inlX4 (by decide) cC_0 rfl 0 (by decide) mw_15 rfl dX4_broken_10 ?_
    refine lv_iload_n hx hb dX4_broken_13 rfl (lv_at hl 1 rfl) ?_
    refine u_callV (cf' := cC cyI cO ad n d md go ke ha wy ab be sr) (As := [.int w]) (rest := []) (st1 := [.int (btV n d w)]) C hW (c_X3_brokenThrees l D cyI cO cyZ ad fa n d md go ke ha wy ab be sr w (by omega)) mv_yX3_brokenThrees mw_134 rfl ⟨rfl, rfl, Nat.le_of_ble_eq_true rfl, Nat.le_of_ble_eq_true rfl⟩ (by decide) cC_1 rfl rfl hl (Nat.le_of_ble_eq_true rfl) rfl rfl dX4_broken_14 (fun H locs hW => ?_)
    exact u_iret C hr hW dX4_broken_17 (by simp only [bkR, if_pos c1_1]) rfl
  · skip
    refine lv_iload_n hx hb dX4_broken_4 rfl (lv_at hl 1 rfl) ?_
    refine lv_iconst (v := 1) hx hb dX4_broken_5 (by decide) ?_
    refine lv_icmp_ne (tgt := 18) hx hb dX4_broken_6 (by decide) (fun c6_2 => ?_) (fun c6_2 => ?_)
    · skip
      refine lv_iload_n hx hb dX4_broken_18 rfl (lv_at hl 1 rfl) ?_
      refine lv_iconst (v := 2) hx hb dX4_broken_19 (by decide) ?_
      refine lv_icmp_ne (tgt := 33) hx hb dX4_broken_20 (by decide) (fun c20_3 => ?_) (fun c20_3 => ?_)
      · skip
        refine lv_bipush (v := -102) hx hb dX4_broken_33 (by decide) ?_
        exact u_iret C hr hW dX4_broken_35 (by simp only [bkR, if_neg c1_1, if_neg c6_2, if_neg c20_3]) rfl
      · skip
        refine lv_aload_n hx hb dX4_broken_23 rfl (lv_at hl 0 rfl) ?_
        refine u_get C hW inlX4 (by decide) cC_0 rfl 0 (by decide) mw_15 rfl dX4_broken_24 ?_
        refine u_callV (cf' := cC cyI cO ad n d md go ke ha wy ab be sr) (As := []) (rest := []) (st1 := [.int (bfV n d)]) C hW (c_X3_brokenFours l D cyI cO cyZ ad fa n d md go ke ha wy ab be sr  (by omega)) mv_yX3_brokenFours mw_156 rfl ⟨rfl, rfl, Nat.le_of_ble_eq_true rfl, Nat.le_of_ble_eq_true rfl⟩ (by decide) cC_1 rfl rfl hl (Nat.le_of_ble_eq_true rfl) rfl rfl dX4_broken_27 (fun H locs hW => ?_)
        refine lv_goto (tgt := 35) hx hb dX4_broken_30 (by decide) ?_
        exact u_iret C hr hW dX4_broken_35 (by simp only [bkR, if_neg c1_1, if_neg c6_2, if_pos c20_3]) rfl
    · skip
      refine lv_aload_n hx hb dX4_broken_9 rfl (lv_at hl 0 rfl) ?_
      refine u_get C hW inlX4 (by decide) cC_0 rfl 0 (by decide) mw_15 rfl dX4_broken_10 ?_
      refine lv_iload_n hx hb dX4_broken_13 rfl (lv_at hl 1 rfl) ?_
      refine u_callV (cf' := cC cyI cO ad n d md go ke ha wy ab be sr) (As := [.int w]) (rest := []) (st1 := [.int (btV n d w)]) C hW (c_X3_brokenThrees l D cyI cO cyZ ad fa n d md go ke ha wy ab be sr w (by omega)) mv_yX3_brokenThrees mw_134 rfl ⟨rfl, rfl, Nat.le_of_ble_eq_true rfl, Nat.le_of_ble_eq_true rfl⟩ (by decide) cC_1 rfl rfl hl (Nat.le_of_ble_eq_true rfl) rfl rfl dX4_broken_14 (fun H locs hW => ?_)
      exact u_iret C hr hW dX4_broken_17 (by simp only [bkR, if_neg c1_1, if_pos c6_2]) rfl
set_option maxHeartbeats 4000000 in
set_option maxRecDepth 100000 in
theorem c_X4_mend (l : Launch) (D : va_G) (cyI cO cyZ : ClassId) (ad : Nat → Nat) (fa : Nat) (n : Nat) (d md : Nat → Nat → Int32) (go ke ha : Nat → Int32) (wy : Nat → Nat → Int32) (ab be sr : Int32)  (hn : n ≤ 6) : Ct l yX4_mend (Cond.code yX4_mend cX4_mend 1 (some .int) :: wsL_law) ({ frames := 4, cells := 0, slots := 0, locals := 94 } : Room) D (ty3 cyI cO cyZ) 29 ad fa [.ref (ad 0)] (cC cyI cO ad n d md go ke ha wy ab be sr) (cC cyI cO ad n ((bcV n d (clV n d md 0)).2) (clV n d md 0) go ke ha wy ab be sr) (some (.int ((bcV n d (clV n d md 0)).1))) := by
  refine Ct.of (by decide) (Nat.le_of_ble_eq_true rfl) ?_
  intro p e s m args below meth c A C hr H locs hW ls hl
  have C : Cx p s m args meth c cX4_mend 1 RX4 D (ty3 cyI cO cyZ) fa A := C
  have hx := C.1
  have hb := C.2.1
  have hl : lv_has ls 1 [(0, .ref (ad 0))] := hl
  refine lv_aload_n hx hb dX4_mend_0 rfl (lv_at hl 0 rfl) ?_
  refine u_get C hW inlX4 (by decide) cC_0 rfl 0 (by decide) mw_15 rfl dX4_mend_1 ?_
  refine lv_aload_n hx hb dX4_mend_4 rfl (lv_at hl 0 rfl) ?_
  refine u_get C hW inlX4 (by decide) cC_0 rfl 0 (by decide) mw_15 rfl dX4_mend_5 ?_
  refine lv_iconst (v := 0) hx hb dX4_mend_8 (by decide) ?_
  refine u_callV (cf' := cC cyI cO ad n d (clV n d md 0) go ke ha wy ab be sr) (As := [.int 0]) (rest := [.ref (ad 1)]) (st1 := [.ref (ad 9), .ref (ad 1)]) C hW (c_X3_closed l D cyI cO cyZ ad fa n d md go ke ha wy ab be sr 0 (by omega)) mv_yX3_closed mw_194 rfl ⟨rfl, rfl, Nat.le_of_ble_eq_true rfl, Nat.le_of_ble_eq_true rfl⟩ (by decide) cC_1 rfl rfl hl (Nat.le_of_ble_eq_true rfl) rfl rfl dX4_mend_9 (fun H locs hW => ?_)
  refine u_callV (cf' := cC cyI cO ad n ((bcV n d (clV n d md 0)).2) (clV n d md 0) go ke ha wy ab be sr) (As := [.ref (ad 9)]) (rest := []) (st1 := [.int ((bcV n d (clV n d md 0)).1)]) C hW (c_becomeM l D cyI cO cyZ ad fa n d (clV n d md 0) go ke ha wy ab be sr  (by omega)) mv_yX3_become mw_209 rfl ⟨rfl, rfl, Nat.le_of_ble_eq_true rfl, Nat.le_of_ble_eq_true rfl⟩ (by decide) cC_1 rfl rfl hl (Nat.le_of_ble_eq_true rfl) rfl rfl dX4_mend_12 (fun H locs hW => ?_)
  exact u_iret C hr hW dX4_mend_15 rfl rfl
set_option maxHeartbeats 4000000 in
set_option maxRecDepth 100000 in
theorem c_X4_lower (l : Launch) (D : va_G) (cyI cO cyZ : ClassId) (ad : Nat → Nat) (fa : Nat) (n : Nat) (d md : Nat → Nat → Int32) (go ke ha : Nat → Int32) (wy : Nat → Nat → Int32) (ab be sr : Int32)  (hn : n ≤ 6) : Ct l yX4_lower (Cond.code yX4_lower cX4_lower 1 (some .int) :: wsL_law) ({ frames := 4, cells := 0, slots := 0, locals := 94 } : Room) D (ty3 cyI cO cyZ) 29 ad fa [.ref (ad 0)] (cC cyI cO ad n d md go ke ha wy ab be sr) (cC cyI cO ad n ((bcV n d (clV n d md 1)).2) (clV n d md 1) go ke ha wy ab be sr) (some (.int ((bcV n d (clV n d md 1)).1))) := by
  refine Ct.of (by decide) (Nat.le_of_ble_eq_true rfl) ?_
  intro p e s m args below meth c A C hr H locs hW ls hl
  have C : Cx p s m args meth c cX4_lower 1 RX4 D (ty3 cyI cO cyZ) fa A := C
  have hx := C.1
  have hb := C.2.1
  have hl : lv_has ls 1 [(0, .ref (ad 0))] := hl
  refine lv_aload_n hx hb dX4_lower_0 rfl (lv_at hl 0 rfl) ?_
  refine u_get C hW inlX4 (by decide) cC_0 rfl 0 (by decide) mw_15 rfl dX4_lower_1 ?_
  refine lv_aload_n hx hb dX4_lower_4 rfl (lv_at hl 0 rfl) ?_
  refine u_get C hW inlX4 (by decide) cC_0 rfl 0 (by decide) mw_15 rfl dX4_lower_5 ?_
  refine lv_iconst (v := 1) hx hb dX4_lower_8 (by decide) ?_
  refine u_callV (cf' := cC cyI cO ad n d (clV n d md 1) go ke ha wy ab be sr) (As := [.int 1]) (rest := [.ref (ad 1)]) (st1 := [.ref (ad 9), .ref (ad 1)]) C hW (c_X3_closed l D cyI cO cyZ ad fa n d md go ke ha wy ab be sr 1 (by omega)) mv_yX3_closed mw_194 rfl ⟨rfl, rfl, Nat.le_of_ble_eq_true rfl, Nat.le_of_ble_eq_true rfl⟩ (by decide) cC_1 rfl rfl hl (Nat.le_of_ble_eq_true rfl) rfl rfl dX4_lower_9 (fun H locs hW => ?_)
  refine u_callV (cf' := cC cyI cO ad n ((bcV n d (clV n d md 1)).2) (clV n d md 1) go ke ha wy ab be sr) (As := [.ref (ad 9)]) (rest := []) (st1 := [.int ((bcV n d (clV n d md 1)).1)]) C hW (c_becomeM l D cyI cO cyZ ad fa n d (clV n d md 1) go ke ha wy ab be sr  (by omega)) mv_yX3_become mw_209 rfl ⟨rfl, rfl, Nat.le_of_ble_eq_true rfl, Nat.le_of_ble_eq_true rfl⟩ (by decide) cC_1 rfl rfl hl (Nat.le_of_ble_eq_true rfl) rfl rfl dX4_lower_12 (fun H locs hW => ?_)
  exact u_iret C hr hW dX4_lower_15 rfl rfl
set_option maxHeartbeats 4000000 in
set_option maxRecDepth 100000 in
theorem c_X4_low (l : Launch) (D : va_G) (cyI cO cyZ : ClassId) (ad : Nat → Nat) (fa : Nat) (n : Nat) (d md : Nat → Nat → Int32) (go ke ha : Nat → Int32) (wy : Nat → Nat → Int32) (ab be sr : Int32) (x y : Int32) (hn : n ≤ 6) : Ct l yX4_low (Cond.code yX4_low cX4_low 3 (some .int) :: wsL_law) ({ frames := 4, cells := 0, slots := 0, locals := 94 } : Room) D (ty3 cyI cO cyZ) 29 ad fa [.ref (ad 0), .int x, .int y] (cC cyI cO ad n d md go ke ha wy ab be sr) (cC cyI cO ad n d (lwM n d md x y) go ke ha wy ab be sr) (some (.int (lwR n d md x y))) := by
  refine Ct.of (by decide) (Nat.le_of_ble_eq_true rfl) ?_
  intro p e s m args below meth c A C hr H locs hW ls hl
  have C : Cx p s m args meth c cX4_low 3 RX4 D (ty3 cyI cO cyZ) fa A := C
  have hx := C.1
  have hb := C.2.1
  have hl : lv_has ls 3 [(0, .ref (ad 0)), (1, .int x), (2, .int y)] := hl
  refine lv_aload_n hx hb dX4_low_0 rfl (lv_at hl 0 rfl) ?_
  refine lv_iload_n hx hb dX4_low_1 rfl (lv_at hl 1 rfl) ?_
  refine lv_iload_n hx hb dX4_low_2 rfl (lv_at hl 2 rfl) ?_
  refine u_callV (cf' := cC cyI cO ad n d md go ke ha wy ab be sr) (As := [.int x, .int y]) (rest := []) (st1 := [.int (kn2 n x y)]) C hW (c_X4_areKnown l D cyI cO cyZ ad fa n d md go ke ha wy ab be sr x y ) mv_yX4_areKnown mw_98 rfl ⟨rfl, rfl, Nat.le_of_ble_eq_true rfl, Nat.le_of_ble_eq_true rfl⟩ (by decide) cC_0 rfl rfl hl (Nat.le_of_ble_eq_true rfl) rfl rfl dX4_low_3 (fun H locs hW => ?_)
  refine lv_if_eq (tgt := 24) hx hb dX4_low_6 (by decide) (fun c6_1 => ?_) (fun c6_1 => ?_)
  · skip
    refine lv_bipush (v := -101) hx hb dX4_low_24 (by decide) ?_
    exact u_iret C hr hW dX4_low_26 (by simp only [lwR, if_pos c6_1]) (by simp only [lwM, if_pos c6_1])
  · skip
    have hk1 := (kn2_tn hn c6_1).1.2
    have hk2 := (kn2_tn hn c6_1).2.2
    refine lv_aload_n hx hb dX4_low_9 rfl (lv_at hl 0 rfl) ?_
    refine u_get C hW inlX4 (by decide) cC_0 rfl 0 (by decide) mw_15 rfl dX4_low_10 ?_
    refine lv_iconst (v := 1) hx hb dX4_low_13 (by decide) ?_
    refine u_callV (cf' := cC cyI cO ad n d (clV n d md 1) go ke ha wy ab be sr) (As := [.int 1]) (rest := []) (st1 := [.ref (ad 9)]) C hW (c_X3_closed l D cyI cO cyZ ad fa n d md go ke ha wy ab be sr 1 (by omega)) mv_yX3_closed mw_194 rfl ⟨rfl, rfl, Nat.le_of_ble_eq_true rfl, Nat.le_of_ble_eq_true rfl⟩ (by decide) cC_1 rfl rfl hl (Nat.le_of_ble_eq_true rfl) rfl rfl dX4_low_14 (fun H locs hW => ?_)
    refine lv_iload_n hx hb dX4_low_17 rfl (lv_at hl 1 rfl) ?_
    refine u_top (show x = nI (tn x) from (kn2_tn hn c6_1).1.1) ?_
    refine u_aald C hW (by decide) cC_9 1 rfl (tn x) rfl (by omega) (by decide) (cC_outer (by omega)) dX4_low_18 ?_
    refine lv_iload_n hx hb dX4_low_19 rfl (lv_at hl 2 rfl) ?_
    refine u_top (show y = nI (tn y) from (kn2_tn hn c6_1).2.1) ?_
    refine u_iald C hW (by omega) (cC_m (by omega)) 0 rfl (tn y) rfl (by omega) (by decide) dX4_low_20 ?_
    refine lv_goto (tgt := 26) hx hb dX4_low_21 (by decide) ?_
    exact u_iret C hr hW dX4_low_26 (by simp only [lwR, if_neg c6_1]) (by simp only [lwM, if_neg c6_1])
set_option maxHeartbeats 4000000 in
set_option maxRecDepth 100000 in
theorem c_X4_gap (l : Launch) (D : va_G) (cyI cO cyZ : ClassId) (ad : Nat → Nat) (fa : Nat) (n : Nat) (d md : Nat → Nat → Int32) (go ke ha : Nat → Int32) (wy : Nat → Nat → Int32) (ab be sr : Int32)  (hn : n ≤ 6) : Ct l yX4_gap (Cond.code yX4_gap cX4_gap 1 (some .int) :: wsL_law) ({ frames := 4, cells := 0, slots := 0, locals := 94 } : Room) D (ty3 cyI cO cyZ) 29 ad fa [.ref (ad 0)] (cC cyI cO ad n d md go ke ha wy ab be sr) (cC cyI cO ad n d (clV n d md 1) go ke ha wy ab be sr) (some (.int (gaV n d (clV n d md 1)))) := by
  refine Ct.of (by decide) (Nat.le_of_ble_eq_true rfl) ?_
  intro p e s m args below meth c A C hr H locs hW ls hl
  have C : Cx p s m args meth c cX4_gap 1 RX4 D (ty3 cyI cO cyZ) fa A := C
  have hx := C.1
  have hb := C.2.1
  have hl : lv_has ls 1 [(0, .ref (ad 0))] := hl
  refine lv_aload_n hx hb dX4_gap_0 rfl (lv_at hl 0 rfl) ?_
  refine u_get C hW inlX4 (by decide) cC_0 rfl 0 (by decide) mw_15 rfl dX4_gap_1 ?_
  refine lv_aload_n hx hb dX4_gap_4 rfl (lv_at hl 0 rfl) ?_
  refine u_get C hW inlX4 (by decide) cC_0 rfl 0 (by decide) mw_15 rfl dX4_gap_5 ?_
  refine lv_iconst (v := 1) hx hb dX4_gap_8 (by decide) ?_
  refine u_callV (cf' := cC cyI cO ad n d (clV n d md 1) go ke ha wy ab be sr) (As := [.int 1]) (rest := [.ref (ad 1)]) (st1 := [.ref (ad 9), .ref (ad 1)]) C hW (c_X3_closed l D cyI cO cyZ ad fa n d md go ke ha wy ab be sr 1 (by omega)) mv_yX3_closed mw_194 rfl ⟨rfl, rfl, Nat.le_of_ble_eq_true rfl, Nat.le_of_ble_eq_true rfl⟩ (by decide) cC_1 rfl rfl hl (Nat.le_of_ble_eq_true rfl) rfl rfl dX4_gap_9 (fun H locs hW => ?_)
  refine u_callV (cf' := cC cyI cO ad n d (clV n d md 1) go ke ha wy ab be sr) (As := [.ref (ad 9)]) (rest := []) (st1 := [.int (gaV n d (clV n d md 1))]) C hW (c_greatestAbove l D cyI cO cyZ ad fa n d (clV n d md 1) go ke ha wy ab be sr  (by omega)) mv_yX3_greatestAbove mw_238 rfl ⟨rfl, rfl, Nat.le_of_ble_eq_true rfl, Nat.le_of_ble_eq_true rfl⟩ (by decide) cC_1 rfl rfl hl (Nat.le_of_ble_eq_true rfl) rfl rfl dX4_gap_12 (fun H locs hW => ?_)
  exact u_iret C hr hW dX4_gap_15 rfl rfl
set_option maxHeartbeats 4000000 in
set_option maxRecDepth 100000 in
theorem c_X4_groups (l : Launch) (D : va_G) (cyI cO cyZ : ClassId) (ad : Nat → Nat) (fa : Nat) (n : Nat) (d md : Nat → Nat → Int32) (go ke ha : Nat → Int32) (wy : Nat → Nat → Int32) (ab be sr : Int32) (r : Int32) (hn : n ≤ 6) : Ct l yX4_groups (Cond.code yX4_groups cX4_groups 2 (some .int) :: wsL_law) ({ frames := 5, cells := 0, slots := 0, locals := 120 } : Room) D (ty3 cyI cO cyZ) 29 ad fa [.ref (ad 0), .int r] (cC cyI cO ad n d md go ke ha wy ab be sr) (cC cyI cO ad n d (gsM n d md r) go ke ha wy ab be sr) (some (.int (gsR n d md r))) := by
  refine Ct.of (by decide) (Nat.le_of_ble_eq_true rfl) ?_
  intro p e s m args below meth c A C hr H locs hW ls hl
  have C : Cx p s m args meth c cX4_groups 2 RX4 D (ty3 cyI cO cyZ) fa A := C
  have hx := C.1
  have hb := C.2.1
  have hl : lv_has ls 2 [(0, .ref (ad 0)), (1, .int r)] := hl
  refine lv_iload_n hx hb dX4_groups_0 rfl (lv_at hl 1 rfl) ?_
  refine u_callS (cf' := cC cyI cO ad n d md go ke ha wy ab be sr) (As := [.int r]) (rest := []) (st1 := [.int (irV r)]) C hW (c_X4_isReach l D cyI cO cyZ ad fa n d md go ke ha wy ab be sr r ) ms_yX4_isReach mw_250 rfl ⟨rfl, rfl, Nat.le_of_ble_eq_true rfl, Nat.le_of_ble_eq_true rfl⟩ hl (Nat.le_of_ble_eq_true rfl) rfl rfl dX4_groups_1 (fun H locs hW => ?_)
  refine lv_if_eq (tgt := 18) hx hb dX4_groups_4 (by decide) (fun c4_1 => ?_) (fun c4_1 => ?_)
  · skip
    refine lv_bipush (v := -102) hx hb dX4_groups_18 (by decide) ?_
    exact u_iret C hr hW dX4_groups_20 (by simp only [gsR, if_pos c4_1]) (by simp only [gsM, if_pos c4_1])
  · skip
    refine lv_aload_n hx hb dX4_groups_7 rfl (lv_at hl 0 rfl) ?_
    refine u_get C hW inlX4 (by decide) cC_0 rfl 0 (by decide) mw_15 rfl dX4_groups_8 ?_
    refine lv_iload_n hx hb dX4_groups_11 rfl (lv_at hl 1 rfl) ?_
    refine u_callV (cf' := cC cyI cO ad n d (clV n d md 1) go ke ha wy ab be sr) (As := [.int r]) (rest := []) (st1 := [.int (grV n (clV n d md 1) r)]) C hW (c_X3_groupsWithin l D cyI cO cyZ ad fa n d md go ke ha wy ab be sr r (by omega)) mv_yX3_groupsWithin mw_253 rfl ⟨rfl, rfl, Nat.le_of_ble_eq_true rfl, Nat.le_of_ble_eq_true rfl⟩ (by decide) cC_1 rfl rfl hl (Nat.le_of_ble_eq_true rfl) rfl rfl dX4_groups_12 (fun H locs hW => ?_)
    refine lv_goto (tgt := 20) hx hb dX4_groups_15 (by decide) ?_
    exact u_iret C hr hW dX4_groups_20 (by simp only [gsR, if_neg c4_1]) (by simp only [gsM, if_neg c4_1])
set_option maxHeartbeats 4000000 in
set_option maxRecDepth 100000 in
theorem c_X4_codes (l : Launch) (D : va_G) (cyI cO cyZ : ClassId) (ad : Nat → Nat) (fa : Nat) (n : Nat) (d md : Nat → Nat → Int32) (go ke ha : Nat → Int32) (wy : Nat → Nat → Int32) (ab be sr : Int32)  (hn : n ≤ 6) (h2 : 2 ≤ n) : Ct l yX4_codes (Cond.code yX4_codes cX4_codes 1 (some .int) :: wsL_law) ({ frames := 1, cells := 0, slots := 0, locals := 22 } : Room) D (ty3 cyI cO cyZ) 29 ad fa [.ref (ad 0)] (cC cyI cO ad n d md go ke ha wy ab be sr) (cC cyI cO ad n d md go ke ha wy ab be sr) (some (.int (nI (cmV n)))) := by
  refine Ct.of (by decide) (Nat.le_of_ble_eq_true rfl) ?_
  intro p e s m args below meth c A C hr H locs hW ls hl
  have C : Cx p s m args meth c cX4_codes 1 RX4 D (ty3 cyI cO cyZ) fa A := C
  have hx := C.1
  have hb := C.2.1
  have hl : lv_has ls 1 [(0, .ref (ad 0))] := hl
  refine lv_aload_n hx hb dX4_codes_0 rfl (lv_at hl 0 rfl) ?_
  refine u_get C hW inlX4 (by decide) cC_0 rfl 1 (by decide) mw_19 rfl dX4_codes_1 ?_
  refine u_callV (cf' := cC cyI cO ad n d md go ke ha wy ab be sr) (As := []) (rest := []) (st1 := [.int (nI (cmV n))]) C hW (c_X1_howMany l D cyI cO cyZ ad fa n d md go ke ha wy ab be sr  (by omega) (by omega)) mv_yX1_howMany mw_274 rfl ⟨rfl, rfl, Nat.le_of_ble_eq_true rfl, Nat.le_of_ble_eq_true rfl⟩ (by decide) cC_16 rfl rfl hl (Nat.le_of_ble_eq_true rfl) rfl rfl dX4_codes_4 (fun H locs hW => ?_)
  exact u_iret C hr hW dX4_codes_7 rfl rfl
set_option maxHeartbeats 4000000 in
set_option maxRecDepth 100000 in
theorem c_X4_joined (l : Launch) (D : va_G) (cyI cO cyZ : ClassId) (ad : Nat → Nat) (fa : Nat) (n : Nat) (d md : Nat → Nat → Int32) (go ke ha : Nat → Int32) (wy : Nat → Nat → Int32) (ab be sr : Int32) (cd x y : Int32) (hn : n ≤ 6) (h2 : 2 ≤ n) : Ct l yX4_joined (Cond.code yX4_joined cX4_joined 4 (some .int) :: wsL_law) ({ frames := 3, cells := 0, slots := 0, locals := 70 } : Room) D (ty3 cyI cO cyZ) 29 ad fa [.ref (ad 0), .int cd, .int x, .int y] (cC cyI cO ad n d md go ke ha wy ab be sr) (cC cyI cO ad n d md (sc3 n cd x y go (rdG n (tn cd) go ke ha)) (sc3 n cd x y ke (rdK n (tn cd) ke ha)) (sc3 n cd x y ha (rdH n (tn cd) ke ha)) wy ab be sr) (some (.int (jdR n go ke ha cd x y))) := by
  refine Ct.of (by decide) (Nat.le_of_ble_eq_true rfl) ?_
  intro p e s m args below meth c A C hr H locs hW ls hl
  have C : Cx p s m args meth c cX4_joined 4 RX4 D (ty3 cyI cO cyZ) fa A := C
  have hx := C.1
  have hb := C.2.1
  have hl : lv_has ls 4 [(0, .ref (ad 0)), (1, .int cd), (2, .int x), (3, .int y)] := hl
  refine lv_aload_n hx hb dX4_joined_0 rfl (lv_at hl 0 rfl) ?_
  refine lv_iload_n hx hb dX4_joined_1 rfl (lv_at hl 1 rfl) ?_
  refine u_callV (cf' := cC cyI cO ad n d md go ke ha wy ab be sr) (As := [.int cd]) (rest := []) (st1 := [.int (icV n cd)]) C hW (c_X4_isCode l D cyI cO cyZ ad fa n d md go ke ha wy ab be sr cd (by omega) (by omega)) mv_yX4_isCode mw_290 rfl ⟨rfl, rfl, Nat.le_of_ble_eq_true rfl, Nat.le_of_ble_eq_true rfl⟩ (by decide) cC_0 rfl rfl hl (Nat.le_of_ble_eq_true rfl) rfl rfl dX4_joined_2 (fun H locs hW => ?_)
  refine lv_if_ne (tgt := 11) hx hb dX4_joined_5 (by decide) (fun c5_1 => ?_) (fun c5_1 => ?_)
  · skip
    refine lv_aload_n hx hb dX4_joined_11 rfl (lv_at hl 0 rfl) ?_
    refine lv_iload_n hx hb dX4_joined_12 rfl (lv_at hl 2 rfl) ?_
    refine lv_iload_n hx hb dX4_joined_13 rfl (lv_at hl 3 rfl) ?_
    refine u_callV (cf' := cC cyI cO ad n d md go ke ha wy ab be sr) (As := [.int x, .int y]) (rest := []) (st1 := [.int (kn2 n x y)]) C hW (c_X4_areKnown l D cyI cO cyZ ad fa n d md go ke ha wy ab be sr x y ) mv_yX4_areKnown mw_98 rfl ⟨rfl, rfl, Nat.le_of_ble_eq_true rfl, Nat.le_of_ble_eq_true rfl⟩ (by decide) cC_0 rfl rfl hl (Nat.le_of_ble_eq_true rfl) rfl rfl dX4_joined_14 (fun H locs hW => ?_)
    refine lv_if_ne (tgt := 23) hx hb dX4_joined_17 (by decide) (fun c17_2 => ?_) (fun c17_2 => ?_)
    · skip
      have hc1 := (ic_tn hn c5_1).2
      have hcm := cmV_le hn
      refine lv_aload_n hx hb dX4_joined_23 rfl (lv_at hl 0 rfl) ?_
      refine u_get C hW inlX4 (by decide) cC_0 rfl 1 (by decide) mw_19 rfl dX4_joined_24 ?_
      refine lv_iload_n hx hb dX4_joined_27 rfl (lv_at hl 1 rfl) ?_
      refine u_top (show cd = nI (tn cd) from (ic_tn hn c5_1).1) ?_
      refine u_callV (cf' := cC cyI cO ad n d md (rdG n (tn cd) go ke ha) (rdK n (tn cd) ke ha) (rdH n (tn cd) ke ha) wy ab be sr) (As := [.int (nI (tn cd))]) (rest := []) (st1 := []) C hW (c_X1_read l D cyI cO cyZ ad fa n d md go ke ha wy ab be sr (tn cd) (by omega) (by omega) (by omega)) mv_yX1_read mw_294 rfl ⟨rfl, rfl, Nat.le_of_ble_eq_true rfl, Nat.le_of_ble_eq_true rfl⟩ (by decide) cC_16 rfl rfl hl (Nat.le_of_ble_eq_true rfl) rfl rfl dX4_joined_28 (fun H locs hW => ?_)
      refine lv_aload_n hx hb dX4_joined_31 rfl (lv_at hl 0 rfl) ?_
      refine u_get C hW inlX4 (by decide) cC_0 rfl 1 (by decide) mw_19 rfl dX4_joined_32 ?_
      refine lv_iload_n hx hb dX4_joined_35 rfl (lv_at hl 2 rfl) ?_
      refine lv_iload_n hx hb dX4_joined_36 rfl (lv_at hl 3 rfl) ?_
      refine u_callV (cf' := cC cyI cO ad n d md (rdG n (tn cd) go ke ha) (rdK n (tn cd) ke ha) (rdH n (tn cd) ke ha) wy ab be sr) (As := [.int x, .int y]) (rest := []) (st1 := [.int (jnV n (rdG n (tn cd) go ke ha) (rdK n (tn cd) ke ha) x y)]) C hW (c_X1_joins l D cyI cO cyZ ad fa n d md (rdG n (tn cd) go ke ha) (rdK n (tn cd) ke ha) (rdH n (tn cd) ke ha) wy ab be sr x y (by omega) (by omega)) mv_yX1_joins mw_307 rfl ⟨rfl, rfl, Nat.le_of_ble_eq_true rfl, Nat.le_of_ble_eq_true rfl⟩ (by decide) cC_16 rfl rfl hl (Nat.le_of_ble_eq_true rfl) rfl rfl dX4_joined_37 (fun H locs hW => ?_)
      refine u_callS (cf' := cC cyI cO ad n d md (rdG n (tn cd) go ke ha) (rdK n (tn cd) ke ha) (rdH n (tn cd) ke ha) wy ab be sr) (As := [.int (jnV n (rdG n (tn cd) go ke ha) (rdK n (tn cd) ke ha) x y)]) (rest := []) (st1 := [.int (asA (jnV n (rdG n (tn cd) go ke ha) (rdK n (tn cd) ke ha) x y))]) C hW (c_X4_asAnswer l D cyI cO cyZ ad fa n d md (rdG n (tn cd) go ke ha) (rdK n (tn cd) ke ha) (rdH n (tn cd) ke ha) wy ab be sr (jnV n (rdG n (tn cd) go ke ha) (rdK n (tn cd) ke ha) x y) ) ms_yX4_asAnswer mw_149 rfl ⟨rfl, rfl, Nat.le_of_ble_eq_true rfl, Nat.le_of_ble_eq_true rfl⟩ hl (Nat.le_of_ble_eq_true rfl) rfl rfl dX4_joined_40 (fun H locs hW => ?_)
      exact u_iret C hr hW dX4_joined_43 (by simp only [jdR, if_neg c5_1, if_neg c17_2]) (by simp only [sc3, if_neg c5_1, if_neg c17_2])
    · skip
      refine lv_bipush (v := -101) hx hb dX4_joined_20 (by decide) ?_
      exact u_iret C hr hW dX4_joined_22 (by simp only [jdR, if_neg c5_1, if_pos c17_2]) (by simp only [sc3, if_neg c5_1, if_pos c17_2])
  · skip
    refine lv_bipush (v := -102) hx hb dX4_joined_8 (by decide) ?_
    exact u_iret C hr hW dX4_joined_10 (by simp only [jdR, if_pos c5_1]) (by simp only [sc3, if_pos c5_1])
set_option maxHeartbeats 4000000 in
set_option maxRecDepth 100000 in
theorem c_X4_way (l : Launch) (D : va_G) (cyI cO cyZ : ClassId) (ad : Nat → Nat) (fa : Nat) (n : Nat) (d md : Nat → Nat → Int32) (go ke ha : Nat → Int32) (wy : Nat → Nat → Int32) (ab be sr : Int32) (cd x y : Int32) (hn : n ≤ 6) (h2 : 2 ≤ n) : Ct l yX4_way (Cond.code yX4_way cX4_way 4 (some .int) :: wsL_law) ({ frames := 4, cells := 0, slots := 0, locals := 94 } : Room) D (ty3 cyI cO cyZ) 29 ad fa [.ref (ad 0), .int cd, .int x, .int y] (cC cyI cO ad n d md go ke ha wy ab be sr) (cC cyI cO ad n d md (sc3 n cd x y go (rdG n (tn cd) go ke ha)) (sc3 n cd x y ke (rdK n (tn cd) ke ha)) (sc3 n cd x y ha (rdH n (tn cd) ke ha)) (sc3 n cd x y wy (LW n d ke ha wy cd)) ab be sr) (some (.int (wyR n d ke ha wy cd x y))) := by
  refine Ct.of (by decide) (Nat.le_of_ble_eq_true rfl) ?_
  intro p e s m args below meth c A C hr H locs hW ls hl
  have C : Cx p s m args meth c cX4_way 4 RX4 D (ty3 cyI cO cyZ) fa A := C
  have hx := C.1
  have hb := C.2.1
  have hl : lv_has ls 4 [(0, .ref (ad 0)), (1, .int cd), (2, .int x), (3, .int y)] := hl
  refine lv_aload_n hx hb dX4_way_0 rfl (lv_at hl 0 rfl) ?_
  refine lv_iload_n hx hb dX4_way_1 rfl (lv_at hl 1 rfl) ?_
  refine u_callV (cf' := cC cyI cO ad n d md go ke ha wy ab be sr) (As := [.int cd]) (rest := []) (st1 := [.int (icV n cd)]) C hW (c_X4_isCode l D cyI cO cyZ ad fa n d md go ke ha wy ab be sr cd (by omega) (by omega)) mv_yX4_isCode mw_290 rfl ⟨rfl, rfl, Nat.le_of_ble_eq_true rfl, Nat.le_of_ble_eq_true rfl⟩ (by decide) cC_0 rfl rfl hl (Nat.le_of_ble_eq_true rfl) rfl rfl dX4_way_2 (fun H locs hW => ?_)
  refine lv_if_ne (tgt := 11) hx hb dX4_way_5 (by decide) (fun c5_1 => ?_) (fun c5_1 => ?_)
  · skip
    refine lv_aload_n hx hb dX4_way_11 rfl (lv_at hl 0 rfl) ?_
    refine lv_iload_n hx hb dX4_way_12 rfl (lv_at hl 2 rfl) ?_
    refine lv_iload_n hx hb dX4_way_13 rfl (lv_at hl 3 rfl) ?_
    refine u_callV (cf' := cC cyI cO ad n d md go ke ha wy ab be sr) (As := [.int x, .int y]) (rest := []) (st1 := [.int (kn2 n x y)]) C hW (c_X4_areKnown l D cyI cO cyZ ad fa n d md go ke ha wy ab be sr x y ) mv_yX4_areKnown mw_98 rfl ⟨rfl, rfl, Nat.le_of_ble_eq_true rfl, Nat.le_of_ble_eq_true rfl⟩ (by decide) cC_0 rfl rfl hl (Nat.le_of_ble_eq_true rfl) rfl rfl dX4_way_14 (fun H locs hW => ?_)
    refine lv_if_ne (tgt := 23) hx hb dX4_way_17 (by decide) (fun c17_2 => ?_) (fun c17_2 => ?_)
    · skip
      have hc1 := (ic_tn hn c5_1).2
      have hcm := cmV_le hn
      have hk1 := (kn2_tn hn c17_2).1.2
      have hk2 := (kn2_tn hn c17_2).2.2
      refine lv_aload_n hx hb dX4_way_23 rfl (lv_at hl 0 rfl) ?_
      refine u_get C hW inlX4 (by decide) cC_0 rfl 1 (by decide) mw_19 rfl dX4_way_24 ?_
      refine lv_iload_n hx hb dX4_way_27 rfl (lv_at hl 1 rfl) ?_
      refine u_top (show cd = nI (tn cd) from (ic_tn hn c5_1).1) ?_
      refine u_callV (cf' := cC cyI cO ad n d md (rdG n (tn cd) go ke ha) (rdK n (tn cd) ke ha) (rdH n (tn cd) ke ha) (lyV n d (Gn n (tn cd) ke ha) (Kn n (tn cd) ke ha) wy) ab be sr) (As := [.int (nI (tn cd))]) (rest := []) (st1 := []) C hW (c_X1_lay l D cyI cO cyZ ad fa n d md go ke ha wy ab be sr (tn cd) (by omega) (by omega) (by omega)) mv_yX1_lay mw_335 rfl ⟨rfl, rfl, Nat.le_of_ble_eq_true rfl, Nat.le_of_ble_eq_true rfl⟩ (by decide) cC_16 rfl rfl hl (Nat.le_of_ble_eq_true rfl) rfl rfl dX4_way_28 (fun H locs hW => ?_)
      refine lv_aload_n hx hb dX4_way_31 rfl (lv_at hl 0 rfl) ?_
      refine u_get C hW inlX4 (by decide) cC_0 rfl 1 (by decide) mw_19 rfl dX4_way_32 ?_
      refine u_getN C hW inlX1 (by decide) cC_16 rfl 4 (by decide) (List.mem_of_getElem? (i := 0) rfl) rfl dX4_way_35 ?_
      refine lv_iload_n hx hb dX4_way_38 rfl (lv_at hl 2 rfl) ?_
      refine u_top (show x = nI (tn x) from (kn2_tn hn c17_2).1.1) ?_
      refine u_aald C hW (by decide) cC_20 1 rfl (tn x) rfl (by omega) (by decide) (cC_outer (by omega)) dX4_way_39 ?_
      refine lv_iload_n hx hb dX4_way_40 rfl (lv_at hl 3 rfl) ?_
      refine u_top (show y = nI (tn y) from (kn2_tn hn c17_2).2.1) ?_
      refine u_iald C hW (by omega) (cC_w (by omega)) 0 rfl (tn y) rfl (by omega) (by decide) dX4_way_41 ?_
      exact u_iret C hr hW dX4_way_42 (by simp only [wyR, if_neg c5_1, if_neg c17_2]) (by simp only [sc3, if_neg c5_1, if_neg c17_2])
    · skip
      refine lv_bipush (v := -101) hx hb dX4_way_20 (by decide) ?_
      exact u_iret C hr hW dX4_way_22 (by simp only [wyR, if_neg c5_1, if_pos c17_2]) (by simp only [sc3, if_neg c5_1, if_pos c17_2])
  · skip
    refine lv_bipush (v := -102) hx hb dX4_way_8 (by decide) ?_
    exact u_iret C hr hW dX4_way_10 (by simp only [wyR, if_pos c5_1]) (by simp only [sc3, if_pos c5_1])
set_option maxHeartbeats 4000000 in
set_option maxRecDepth 100000 in
theorem c_X4_stretch (l : Launch) (D : va_G) (cyI cO cyZ : ClassId) (ad : Nat → Nat) (fa : Nat) (n : Nat) (d md : Nat → Nat → Int32) (go ke ha : Nat → Int32) (wy : Nat → Nat → Int32) (ab be sr : Int32) (cd p0 : Int32) (hn : n ≤ 6) (h2 : 2 ≤ n) : Ct l yX4_stretch (Cond.code yX4_stretch cX4_stretch 5 (some .long) :: wsL_law) ({ frames := 4, cells := 0, slots := 0, locals := 94 } : Room) D (ty3 cyI cO cyZ) 29 ad fa [.ref (ad 0), .int cd, .int p0] (cC cyI cO ad n d md go ke ha wy ab be sr) (cC cyI cO ad n d md (sc2 n cd p0 go (rdG n (tn cd) go ke ha)) (sc2 n cd p0 ke (rdK n (tn cd) ke ha)) (sc2 n cd p0 ha (rdH n (tn cd) ke ha)) (sc2 n cd p0 wy (LW n d ke ha wy cd)) (sc2 n cd p0 ab ((fsV n d (LW n d ke ha wy cd)).1)) (sc2 n cd p0 be ((fsV n d (LW n d ke ha wy cd)).2)) sr) (some (.long (srR n d (LW n d ke ha wy cd) cd p0))) := by
  refine Ct.of (by decide) (Nat.le_of_ble_eq_true rfl) ?_
  intro p e s m args below meth c A C hr H locs hW ls hl
  have C : Cx p s m args meth c cX4_stretch 5 RX4 D (ty3 cyI cO cyZ) fa A := C
  have hx := C.1
  have hb := C.2.1
  have hl : lv_has ls 5 [(0, .ref (ad 0)), (1, .int cd), (2, .int p0)] := hl
  refine lv_aload_n hx hb dX4_stretch_0 rfl (lv_at hl 0 rfl) ?_
  refine lv_iload_n hx hb dX4_stretch_1 rfl (lv_at hl 1 rfl) ?_
  refine u_callV (cf' := cC cyI cO ad n d md go ke ha wy ab be sr) (As := [.int cd]) (rest := []) (st1 := [.int (icV n cd)]) C hW (c_X4_isCode l D cyI cO cyZ ad fa n d md go ke ha wy ab be sr cd (by omega) (by omega)) mv_yX4_isCode mw_290 rfl ⟨rfl, rfl, Nat.le_of_ble_eq_true rfl, Nat.le_of_ble_eq_true rfl⟩ (by decide) cC_0 rfl rfl hl (Nat.le_of_ble_eq_true rfl) rfl rfl dX4_stretch_2 (fun H locs hW => ?_)
  refine lv_if_eq (tgt := 17) hx hb dX4_stretch_5 (by decide) (fun c5_1 => ?_) (fun c5_1 => ?_)
  · skip
    refine lv_ldc2 (v := -102) hx hb C.2.2.2.1 (C.2.2.2.2.1 _ mw_357) dX4_stretch_17 ?_
    exact u_lret C hr hW dX4_stretch_20 (by simp only [srR, sdV, if_pos c5_1]) (by simp only [sc2, if_pos c5_1])
  · skip
    refine lv_iload_n hx hb dX4_stretch_8 rfl (lv_at hl 2 rfl) ?_
    refine lv_if_eq (tgt := 21) hx hb dX4_stretch_9 (by decide) (fun c9_2 => ?_) (fun c9_2 => ?_)
    · skip
      have hc1 := (ic_tn hn c5_1).2
      have hcm := cmV_le hn
      refine lv_aload_n hx hb dX4_stretch_21 rfl (lv_at hl 0 rfl) ?_
      refine u_get C hW inlX4 (by decide) cC_0 rfl 1 (by decide) mw_19 rfl dX4_stretch_22 ?_
      refine lv_iload_n hx hb dX4_stretch_25 rfl (lv_at hl 1 rfl) ?_
      refine u_top (show cd = nI (tn cd) from (ic_tn hn c5_1).1) ?_
      refine u_callV (cf' := cC cyI cO ad n d md (rdG n (tn cd) go ke ha) (rdK n (tn cd) ke ha) (rdH n (tn cd) ke ha) (lyV n d (Gn n (tn cd) ke ha) (Kn n (tn cd) ke ha) wy) ab be sr) (As := [.int (nI (tn cd))]) (rest := []) (st1 := []) C hW (c_X1_lay l D cyI cO cyZ ad fa n d md go ke ha wy ab be sr (tn cd) (by omega) (by omega) (by omega)) mv_yX1_lay mw_335 rfl ⟨rfl, rfl, Nat.le_of_ble_eq_true rfl, Nat.le_of_ble_eq_true rfl⟩ (by decide) cC_16 rfl rfl hl (Nat.le_of_ble_eq_true rfl) rfl rfl dX4_stretch_26 (fun H locs hW => ?_)
      refine lv_aload_n hx hb dX4_stretch_29 rfl (lv_at hl 0 rfl) ?_
      refine u_get C hW inlX4 (by decide) cC_0 rfl 1 (by decide) mw_19 rfl dX4_stretch_30 ?_
      refine u_callV (cf' := cC cyI cO ad n d md (rdG n (tn cd) go ke ha) (rdK n (tn cd) ke ha) (rdH n (tn cd) ke ha) (lyV n d (Gn n (tn cd) ke ha) (Kn n (tn cd) ke ha) wy) ((fsV n d (lyV n d (Gn n (tn cd) ke ha) (Kn n (tn cd) ke ha) wy)).1) ((fsV n d (lyV n d (Gn n (tn cd) ke ha) (Kn n (tn cd) ke ha) wy)).2) sr) (As := []) (rest := []) (st1 := []) C hW (c_X1_findStretch l D cyI cO cyZ ad fa n d md (rdG n (tn cd) go ke ha) (rdK n (tn cd) ke ha) (rdH n (tn cd) ke ha) (lyV n d (Gn n (tn cd) ke ha) (Kn n (tn cd) ke ha) wy) ab be sr  (by omega)) mv_yX1_findStretch mw_358 rfl ⟨rfl, rfl, Nat.le_of_ble_eq_true rfl, Nat.le_of_ble_eq_true rfl⟩ (by decide) cC_16 rfl rfl hl (Nat.le_of_ble_eq_true rfl) rfl rfl dX4_stretch_33 (fun H locs hW => ?_)
      refine lv_iload_n hx hb dX4_stretch_36 rfl (lv_at hl 2 rfl) ?_
      refine lv_if_ne (tgt := 50) hx hb dX4_stretch_37 (by decide) (fun c9 => absurd c9 (not_not_intro c9_2)) (fun _ => ?_)
      refine lv_aload_n hx hb dX4_stretch_40 rfl (lv_at hl 0 rfl) ?_
      refine u_get C hW inlX4 (by decide) cC_0 rfl 1 (by decide) mw_19 rfl dX4_stretch_41 ?_
      refine u_getN C hW inlX1 (by decide) cC_16 rfl 5 (by decide) (List.mem_of_getElem? (i := 1) rfl) rfl dX4_stretch_44 ?_
      refine lv_goto (tgt := 57) hx hb dX4_stretch_47 (by decide) ?_
      refine lv_istore_n (lv' := [(3, .int ((fsV n d (lyV n d (Gn n (tn cd) ke ha) (Kn n (tn cd) ke ha) wy)).1)), (0, .ref (ad 0)), (1, .int cd), (2, .int p0)]) hx hb dX4_stretch_57 rfl hl (by decide) rfl (fun ls hl => ?_)
      refine lv_aload_n hx hb dX4_stretch_58 rfl (lv_at hl 1 rfl) ?_
      refine u_get C hW inlX4 (by decide) cC_0 rfl 1 (by decide) mw_19 rfl dX4_stretch_59 ?_
      refine u_getN C hW inlX1 (by decide) cC_16 rfl 5 (by decide) (List.mem_of_getElem? (i := 1) rfl) rfl dX4_stretch_62 ?_
      refine lv_aload_n hx hb dX4_stretch_65 rfl (lv_at hl 1 rfl) ?_
      refine u_get C hW inlX4 (by decide) cC_0 rfl 1 (by decide) mw_19 rfl dX4_stretch_66 ?_
      refine u_getN C hW inlX1 (by decide) cC_16 rfl 6 (by decide) (List.mem_of_getElem? (i := 2) rfl) rfl dX4_stretch_69 ?_
      refine u_callS (cf' := cC cyI cO ad n d md (rdG n (tn cd) go ke ha) (rdK n (tn cd) ke ha) (rdH n (tn cd) ke ha) (lyV n d (Gn n (tn cd) ke ha) (Kn n (tn cd) ke ha) wy) ((fsV n d (lyV n d (Gn n (tn cd) ke ha) (Kn n (tn cd) ke ha) wy)).1) ((fsV n d (lyV n d (Gn n (tn cd) ke ha) (Kn n (tn cd) ke ha) wy)).2) sr) (As := [.int ((fsV n d (lyV n d (Gn n (tn cd) ke ha) (Kn n (tn cd) ke ha) wy)).1), .int ((fsV n d (lyV n d (Gn n (tn cd) ke ha) (Kn n (tn cd) ke ha) wy)).2)]) (rest := []) (st1 := [.int (gdF 64 ((fsV n d (lyV n d (Gn n (tn cd) ke ha) (Kn n (tn cd) ke ha) wy)).1) ((fsV n d (lyV n d (Gn n (tn cd) ke ha) (Kn n (tn cd) ke ha) wy)).2))]) C hW (c_X4_greatestDivisor l D cyI cO cyZ ad fa n d md (rdG n (tn cd) go ke ha) (rdK n (tn cd) ke ha) (rdH n (tn cd) ke ha) (lyV n d (Gn n (tn cd) ke ha) (Kn n (tn cd) ke ha) wy) ((fsV n d (lyV n d (Gn n (tn cd) ke ha) (Kn n (tn cd) ke ha) wy)).1) ((fsV n d (lyV n d (Gn n (tn cd) ke ha) (Kn n (tn cd) ke ha) wy)).2) sr ((fsV n d (lyV n d (Gn n (tn cd) ke ha) (Kn n (tn cd) ke ha) wy)).1) ((fsV n d (lyV n d (Gn n (tn cd) ke ha) (Kn n (tn cd) ke ha) wy)).2) ) ms_yX4_greatestDivisor mw_362 rfl ⟨rfl, rfl, Nat.le_of_ble_eq_true rfl, Nat.le_of_ble_eq_true rfl⟩ hl (Nat.le_of_ble_eq_true rfl) rfl rfl dX4_stretch_72 (fun H locs hW => ?_)
      refine lv_istore (lv' := [(4, .int (gdF 64 ((fsV n d (lyV n d (Gn n (tn cd) ke ha) (Kn n (tn cd) ke ha) wy)).1) ((fsV n d (lyV n d (Gn n (tn cd) ke ha) (Kn n (tn cd) ke ha) wy)).2))), (3, .int ((fsV n d (lyV n d (Gn n (tn cd) ke ha) (Kn n (tn cd) ke ha) wy)).1)), (0, .ref (ad 0)), (1, .int cd), (2, .int p0)]) hx hb dX4_stretch_75 hl (by decide) rfl (fun ls hl => ?_)
      refine lv_iload hx hb dX4_stretch_77 (lv_at hl 0 rfl) ?_
      refine lv_iconst (v := 1) hx hb dX4_stretch_79 (by decide) ?_
      refine lv_icmp_le (tgt := 91) hx hb dX4_stretch_80 (by decide) (fun c80_3 => ?_) (fun c80_3 => ?_)
      · skip
        refine lv_iload_n hx hb dX4_stretch_91 rfl (lv_at hl 1 rfl) ?_
        refine lv_i2l hx hb dX4_stretch_92 rfl ?_
        exact u_lret C hr hW dX4_stretch_93 (by simp only [srR, sdV, if_neg c5_1, if_pos c9_2, if_pos c80_3]) (by simp only [sc2, if_neg c5_1, if_pos c9_2, if_pos c80_3])
      · skip
        refine lv_iload_n hx hb dX4_stretch_83 rfl (lv_at hl 1 rfl) ?_
        refine lv_iload hx hb dX4_stretch_84 (lv_at hl 0 rfl) ?_
        refine lv_idiv hx hb dX4_stretch_86 (le1_ne c80_3) ?_
        refine lv_i2l hx hb dX4_stretch_87 rfl ?_
        refine lv_goto (tgt := 93) hx hb dX4_stretch_88 (by decide) ?_
        exact u_lret C hr hW dX4_stretch_93 (by simp only [srR, sdV, if_neg c5_1, if_pos c9_2, if_neg c80_3]) (by simp only [sc2, if_neg c5_1, if_pos c9_2, if_neg c80_3])
    · skip
      refine lv_iload_n hx hb dX4_stretch_12 rfl (lv_at hl 2 rfl) ?_
      refine lv_iconst (v := 1) hx hb dX4_stretch_13 (by decide) ?_
      refine lv_icmp_eq (tgt := 21) hx hb dX4_stretch_14 (by decide) (fun c14_4 => ?_) (fun c14_4 => ?_)
      · skip
        have hc1 := (ic_tn hn c5_1).2
        have hcm := cmV_le hn
        refine lv_aload_n hx hb dX4_stretch_21 rfl (lv_at hl 0 rfl) ?_
        refine u_get C hW inlX4 (by decide) cC_0 rfl 1 (by decide) mw_19 rfl dX4_stretch_22 ?_
        refine lv_iload_n hx hb dX4_stretch_25 rfl (lv_at hl 1 rfl) ?_
        refine u_top (show cd = nI (tn cd) from (ic_tn hn c5_1).1) ?_
        refine u_callV (cf' := cC cyI cO ad n d md (rdG n (tn cd) go ke ha) (rdK n (tn cd) ke ha) (rdH n (tn cd) ke ha) (lyV n d (Gn n (tn cd) ke ha) (Kn n (tn cd) ke ha) wy) ab be sr) (As := [.int (nI (tn cd))]) (rest := []) (st1 := []) C hW (c_X1_lay l D cyI cO cyZ ad fa n d md go ke ha wy ab be sr (tn cd) (by omega) (by omega) (by omega)) mv_yX1_lay mw_335 rfl ⟨rfl, rfl, Nat.le_of_ble_eq_true rfl, Nat.le_of_ble_eq_true rfl⟩ (by decide) cC_16 rfl rfl hl (Nat.le_of_ble_eq_true rfl) rfl rfl dX4_stretch_26 (fun H locs hW => ?_)
        refine lv_aload_n hx hb dX4_stretch_29 rfl (lv_at hl 0 rfl) ?_
        refine u_get C hW inlX4 (by decide) cC_0 rfl 1 (by decide) mw_19 rfl dX4_stretch_30 ?_
        refine u_callV (cf' := cC cyI cO ad n d md (rdG n (tn cd) go ke ha) (rdK n (tn cd) ke ha) (rdH n (tn cd) ke ha) (lyV n d (Gn n (tn cd) ke ha) (Kn n (tn cd) ke ha) wy) ((fsV n d (lyV n d (Gn n (tn cd) ke ha) (Kn n (tn cd) ke ha) wy)).1) ((fsV n d (lyV n d (Gn n (tn cd) ke ha) (Kn n (tn cd) ke ha) wy)).2) sr) (As := []) (rest := []) (st1 := []) C hW (c_X1_findStretch l D cyI cO cyZ ad fa n d md (rdG n (tn cd) go ke ha) (rdK n (tn cd) ke ha) (rdH n (tn cd) ke ha) (lyV n d (Gn n (tn cd) ke ha) (Kn n (tn cd) ke ha) wy) ab be sr  (by omega)) mv_yX1_findStretch mw_358 rfl ⟨rfl, rfl, Nat.le_of_ble_eq_true rfl, Nat.le_of_ble_eq_true rfl⟩ (by decide) cC_16 rfl rfl hl (Nat.le_of_ble_eq_true rfl) rfl rfl dX4_stretch_33 (fun H locs hW => ?_)
        refine lv_iload_n hx hb dX4_stretch_36 rfl (lv_at hl 2 rfl) ?_
        refine lv_if_ne (tgt := 50) hx hb dX4_stretch_37 (by decide) (fun _ => ?_) (fun c9 => absurd c9 c9_2)
        refine lv_aload_n hx hb dX4_stretch_50 rfl (lv_at hl 0 rfl) ?_
        refine u_get C hW inlX4 (by decide) cC_0 rfl 1 (by decide) mw_19 rfl dX4_stretch_51 ?_
        refine u_getN C hW inlX1 (by decide) cC_16 rfl 6 (by decide) (List.mem_of_getElem? (i := 2) rfl) rfl dX4_stretch_54 ?_
        refine lv_istore_n (lv' := [(3, .int ((fsV n d (lyV n d (Gn n (tn cd) ke ha) (Kn n (tn cd) ke ha) wy)).2)), (0, .ref (ad 0)), (1, .int cd), (2, .int p0)]) hx hb dX4_stretch_57 rfl hl (by decide) rfl (fun ls hl => ?_)
        refine lv_aload_n hx hb dX4_stretch_58 rfl (lv_at hl 1 rfl) ?_
        refine u_get C hW inlX4 (by decide) cC_0 rfl 1 (by decide) mw_19 rfl dX4_stretch_59 ?_
        refine u_getN C hW inlX1 (by decide) cC_16 rfl 5 (by decide) (List.mem_of_getElem? (i := 1) rfl) rfl dX4_stretch_62 ?_
        refine lv_aload_n hx hb dX4_stretch_65 rfl (lv_at hl 1 rfl) ?_
        refine u_get C hW inlX4 (by decide) cC_0 rfl 1 (by decide) mw_19 rfl dX4_stretch_66 ?_
        refine u_getN C hW inlX1 (by decide) cC_16 rfl 6 (by decide) (List.mem_of_getElem? (i := 2) rfl) rfl dX4_stretch_69 ?_
        refine u_callS (cf' := cC cyI cO ad n d md (rdG n (tn cd) go ke ha) (rdK n (tn cd) ke ha) (rdH n (tn cd) ke ha) (lyV n d (Gn n (tn cd) ke ha) (Kn n (tn cd) ke ha) wy) ((fsV n d (lyV n d (Gn n (tn cd) ke ha) (Kn n (tn cd) ke ha) wy)).1) ((fsV n d (lyV n d (Gn n (tn cd) ke ha) (Kn n (tn cd) ke ha) wy)).2) sr) (As := [.int ((fsV n d (lyV n d (Gn n (tn cd) ke ha) (Kn n (tn cd) ke ha) wy)).1), .int ((fsV n d (lyV n d (Gn n (tn cd) ke ha) (Kn n (tn cd) ke ha) wy)).2)]) (rest := []) (st1 := [.int (gdF 64 ((fsV n d (lyV n d (Gn n (tn cd) ke ha) (Kn n (tn cd) ke ha) wy)).1) ((fsV n d (lyV n d (Gn n (tn cd) ke ha) (Kn n (tn cd) ke ha) wy)).2))]) C hW (c_X4_greatestDivisor l D cyI cO cyZ ad fa n d md (rdG n (tn cd) go ke ha) (rdK n (tn cd) ke ha) (rdH n (tn cd) ke ha) (lyV n d (Gn n (tn cd) ke ha) (Kn n (tn cd) ke ha) wy) ((fsV n d (lyV n d (Gn n (tn cd) ke ha) (Kn n (tn cd) ke ha) wy)).1) ((fsV n d (lyV n d (Gn n (tn cd) ke ha) (Kn n (tn cd) ke ha) wy)).2) sr ((fsV n d (lyV n d (Gn n (tn cd) ke ha) (Kn n (tn cd) ke ha) wy)).1) ((fsV n d (lyV n d (Gn n (tn cd) ke ha) (Kn n (tn cd) ke ha) wy)).2) ) ms_yX4_greatestDivisor mw_362 rfl ⟨rfl, rfl, Nat.le_of_ble_eq_true rfl, Nat.le_of_ble_eq_true rfl⟩ hl (Nat.le_of_ble_eq_true rfl) rfl rfl dX4_stretch_72 (fun H locs hW => ?_)
        refine lv_istore (lv' := [(4, .int (gdF 64 ((fsV n d (lyV n d (Gn n (tn cd) ke ha) (Kn n (tn cd) ke ha) wy)).1) ((fsV n d (lyV n d (Gn n (tn cd) ke ha) (Kn n (tn cd) ke ha) wy)).2))), (3, .int ((fsV n d (lyV n d (Gn n (tn cd) ke ha) (Kn n (tn cd) ke ha) wy)).2)), (0, .ref (ad 0)), (1, .int cd), (2, .int p0)]) hx hb dX4_stretch_75 hl (by decide) rfl (fun ls hl => ?_)
        refine lv_iload hx hb dX4_stretch_77 (lv_at hl 0 rfl) ?_
        refine lv_iconst (v := 1) hx hb dX4_stretch_79 (by decide) ?_
        refine lv_icmp_le (tgt := 91) hx hb dX4_stretch_80 (by decide) (fun c80_5 => ?_) (fun c80_5 => ?_)
        · skip
          refine lv_iload_n hx hb dX4_stretch_91 rfl (lv_at hl 1 rfl) ?_
          refine lv_i2l hx hb dX4_stretch_92 rfl ?_
          exact u_lret C hr hW dX4_stretch_93 (by simp only [srR, sdV, if_neg c5_1, if_neg c9_2, if_pos c14_4, if_pos c80_5]) (by simp only [sc2, if_neg c5_1, if_neg c9_2, if_pos c14_4, if_pos c80_5])
        · skip
          refine lv_iload_n hx hb dX4_stretch_83 rfl (lv_at hl 1 rfl) ?_
          refine lv_iload hx hb dX4_stretch_84 (lv_at hl 0 rfl) ?_
          refine lv_idiv hx hb dX4_stretch_86 (le1_ne c80_5) ?_
          refine lv_i2l hx hb dX4_stretch_87 rfl ?_
          refine lv_goto (tgt := 93) hx hb dX4_stretch_88 (by decide) ?_
          exact u_lret C hr hW dX4_stretch_93 (by simp only [srR, sdV, if_neg c5_1, if_neg c9_2, if_pos c14_4, if_neg c80_5]) (by simp only [sc2, if_neg c5_1, if_neg c9_2, if_pos c14_4, if_neg c80_5])
      · skip
        refine lv_ldc2 (v := -102) hx hb C.2.2.2.1 (C.2.2.2.2.1 _ mw_357) dX4_stretch_17 ?_
        exact u_lret C hr hW dX4_stretch_20 (by simp only [srR, sdV, if_neg c5_1, if_neg c9_2, if_neg c14_4]) (by simp only [sc2, if_neg c5_1, if_neg c9_2, if_neg c14_4])
set_option maxHeartbeats 4000000 in
set_option maxRecDepth 100000 in
theorem c_X4_spread (l : Launch) (D : va_G) (cyI cO cyZ : ClassId) (ad : Nat → Nat) (fa : Nat) (n : Nat) (d md : Nat → Nat → Int32) (go ke ha : Nat → Int32) (wy : Nat → Nat → Int32) (ab be sr : Int32) (cd : Int32) (hn : n ≤ 6) (h2 : 2 ≤ n) : Ct l yX4_spread (Cond.code yX4_spread cX4_spread 2 (some .int) :: wsL_law) ({ frames := 4, cells := 0, slots := 0, locals := 94 } : Room) D (ty3 cyI cO cyZ) 29 ad fa [.ref (ad 0), .int cd] (cC cyI cO ad n d md go ke ha wy ab be sr) (cC cyI cO ad n d md (sc1 n cd go (rdG n (tn cd) go ke ha)) (sc1 n cd ke (rdK n (tn cd) ke ha)) (sc1 n cd ha (rdH n (tn cd) ke ha)) (sc1 n cd wy (LW n d ke ha wy cd)) ab be sr) (some (.int (spR n (LW n d ke ha wy cd) cd))) := by
  refine Ct.of (by decide) (Nat.le_of_ble_eq_true rfl) ?_
  intro p e s m args below meth c A C hr H locs hW ls hl
  have C : Cx p s m args meth c cX4_spread 2 RX4 D (ty3 cyI cO cyZ) fa A := C
  have hx := C.1
  have hb := C.2.1
  have hl : lv_has ls 2 [(0, .ref (ad 0)), (1, .int cd)] := hl
  refine lv_aload_n hx hb dX4_spread_0 rfl (lv_at hl 0 rfl) ?_
  refine lv_iload_n hx hb dX4_spread_1 rfl (lv_at hl 1 rfl) ?_
  refine u_callV (cf' := cC cyI cO ad n d md go ke ha wy ab be sr) (As := [.int cd]) (rest := []) (st1 := [.int (icV n cd)]) C hW (c_X4_isCode l D cyI cO cyZ ad fa n d md go ke ha wy ab be sr cd (by omega) (by omega)) mv_yX4_isCode mw_290 rfl ⟨rfl, rfl, Nat.le_of_ble_eq_true rfl, Nat.le_of_ble_eq_true rfl⟩ (by decide) cC_0 rfl rfl hl (Nat.le_of_ble_eq_true rfl) rfl rfl dX4_spread_2 (fun H locs hW => ?_)
  refine lv_if_ne (tgt := 11) hx hb dX4_spread_5 (by decide) (fun c5_1 => ?_) (fun c5_1 => ?_)
  · skip
    have hc1 := (ic_tn hn c5_1).2
    have hcm := cmV_le hn
    refine lv_aload_n hx hb dX4_spread_11 rfl (lv_at hl 0 rfl) ?_
    refine u_get C hW inlX4 (by decide) cC_0 rfl 1 (by decide) mw_19 rfl dX4_spread_12 ?_
    refine lv_iload_n hx hb dX4_spread_15 rfl (lv_at hl 1 rfl) ?_
    refine u_top (show cd = nI (tn cd) from (ic_tn hn c5_1).1) ?_
    refine u_callV (cf' := cC cyI cO ad n d md (rdG n (tn cd) go ke ha) (rdK n (tn cd) ke ha) (rdH n (tn cd) ke ha) (lyV n d (Gn n (tn cd) ke ha) (Kn n (tn cd) ke ha) wy) ab be sr) (As := [.int (nI (tn cd))]) (rest := []) (st1 := []) C hW (c_X1_lay l D cyI cO cyZ ad fa n d md go ke ha wy ab be sr (tn cd) (by omega) (by omega) (by omega)) mv_yX1_lay mw_335 rfl ⟨rfl, rfl, Nat.le_of_ble_eq_true rfl, Nat.le_of_ble_eq_true rfl⟩ (by decide) cC_16 rfl rfl hl (Nat.le_of_ble_eq_true rfl) rfl rfl dX4_spread_16 (fun H locs hW => ?_)
    refine lv_aload_n hx hb dX4_spread_19 rfl (lv_at hl 0 rfl) ?_
    refine u_get C hW inlX4 (by decide) cC_0 rfl 0 (by decide) mw_15 rfl dX4_spread_20 ?_
    refine lv_aload_n hx hb dX4_spread_23 rfl (lv_at hl 0 rfl) ?_
    refine u_get C hW inlX4 (by decide) cC_0 rfl 1 (by decide) mw_19 rfl dX4_spread_24 ?_
    refine u_getN C hW inlX1 (by decide) cC_16 rfl 4 (by decide) (List.mem_of_getElem? (i := 0) rfl) rfl dX4_spread_27 ?_
    refine u_callV (cf' := cC cyI cO ad n d md (rdG n (tn cd) go ke ha) (rdK n (tn cd) ke ha) (rdH n (tn cd) ke ha) (lyV n d (Gn n (tn cd) ke ha) (Kn n (tn cd) ke ha) wy) ab be sr) (As := [.ref (ad 20)]) (rest := []) (st1 := [.int (suV n (lyV n d (Gn n (tn cd) ke ha) (Kn n (tn cd) ke ha) wy))]) C hW (c_sumOfW l D cyI cO cyZ ad fa n d md (rdG n (tn cd) go ke ha) (rdK n (tn cd) ke ha) (rdH n (tn cd) ke ha) (lyV n d (Gn n (tn cd) ke ha) (Kn n (tn cd) ke ha) wy) ab be sr  (by omega)) mv_yX3_sumOf mw_380 rfl ⟨rfl, rfl, Nat.le_of_ble_eq_true rfl, Nat.le_of_ble_eq_true rfl⟩ (by decide) cC_1 rfl rfl hl (Nat.le_of_ble_eq_true rfl) rfl rfl dX4_spread_30 (fun H locs hW => ?_)
    exact u_iret C hr hW dX4_spread_33 (by simp only [spR, if_neg c5_1]) (by simp only [sc1, if_neg c5_1])
  · skip
    refine lv_bipush (v := -102) hx hb dX4_spread_8 (by decide) ?_
    exact u_iret C hr hW dX4_spread_10 (by simp only [spR, if_pos c5_1]) (by simp only [sc1, if_pos c5_1])
set_option maxHeartbeats 4000000 in
set_option maxRecDepth 100000 in
theorem c_X4_best (l : Launch) (D : va_G) (cyI cO cyZ : ClassId) (ad : Nat → Nat) (fa : Nat) (n : Nat) (d md : Nat → Nat → Int32) (go ke ha : Nat → Int32) (wy : Nat → Nat → Int32) (ab be sr : Int32) (w : Int32) (hn : n ≤ 6) (h2 : 2 ≤ n) : Ct l yX4_best (Cond.code yX4_best cX4_best 2 (some .int) :: wsL_law) ({ frames := 5, cells := 0, slots := 0, locals := 119 } : Room) D (ty3 cyI cO cyZ) 29 ad fa [.ref (ad 0), .int w] (cC cyI cO ad n d md go ke ha wy ab be sr) (cC cyI cO ad n d md (bt3 w sr go ((bsV n d ab be (go, ke, ha, wy)).2.2.2.2.2.1) ((bpV n d (go, ke, ha, wy)).2.2.1)) (bt3 w sr ke ((bsV n d ab be (go, ke, ha, wy)).2.2.2.2.2.2.1) ((bpV n d (go, ke, ha, wy)).2.2.2.1)) (bt3 w sr ha ((bsV n d ab be (go, ke, ha, wy)).2.2.2.2.2.2.2.1) ((bpV n d (go, ke, ha, wy)).2.2.2.2.1)) (bt3 w sr wy ((bsV n d ab be (go, ke, ha, wy)).2.2.2.2.2.2.2.2) ((bpV n d (go, ke, ha, wy)).2.2.2.2.2)) (bt3 w sr ab ((bsV n d ab be (go, ke, ha, wy)).2.2.2.1) ab) (bt3 w sr be ((bsV n d ab be (go, ke, ha, wy)).2.2.2.2.1) be) (bt3 w sr sr (sr + 1) (sr + 1))) (some (.int (btR w sr (bsV n d ab be (go, ke, ha, wy)).1 (bpV n d (go, ke, ha, wy)).1))) := by
  refine Ct.of (by decide) (Nat.le_of_ble_eq_true rfl) ?_
  intro p e s m args below meth c A C hr H locs hW ls hl
  have C : Cx p s m args meth c cX4_best 2 RX4 D (ty3 cyI cO cyZ) fa A := C
  have hx := C.1
  have hb := C.2.1
  have hl : lv_has ls 2 [(0, .ref (ad 0)), (1, .int w)] := hl
  refine lv_iload_n hx hb dX4_best_0 rfl (lv_at hl 1 rfl) ?_
  refine lv_if_eq (tgt := 12) hx hb dX4_best_1 (by decide) (fun c1_1 => ?_) (fun c1_1 => ?_)
  · skip
    refine lv_aload_n hx hb dX4_best_12 rfl (lv_at hl 0 rfl) ?_
    refine u_get C hW inlX4 (by decide) cC_0 rfl 4 (by decide) mw_28 rfl dX4_best_13 ?_
    refine lv_bipush (v := 60) hx hb dX4_best_16 (by decide) ?_
    refine lv_icmp_lt (tgt := 24) hx hb dX4_best_18 (by decide) (fun c18_2 => ?_) (fun c18_2 => ?_)
    · skip
      refine lv_aload_n hx hb dX4_best_24 rfl (lv_at hl 0 rfl) ?_
      refine lv_dup hx hb dX4_best_25 rfl ?_
      refine u_get C hW inlX4 (by decide) cC_0 rfl 4 (by decide) mw_28 rfl dX4_best_26 ?_
      refine lv_iconst (v := 1) hx hb dX4_best_29 (by decide) ?_
      refine lv_iadd hx hb dX4_best_30 ?_
      refine u_put (cf' := cC cyI cO ad n d md go ke ha wy ab be (sr + 1)) C hW inlX4 tyX4 tyX4_ok nmX4 (by decide) cC_0 rfl 4 (by decide) mw_28 rfl rfl rfl (Nat.le_of_ble_eq_true rfl) cC_ssr dX4_best_31 (fun H locs hW => ?_)
      refine lv_iload_n hx hb dX4_best_34 rfl (lv_at hl 1 rfl) ?_
      refine lv_if_ne (tgt := 48) hx hb dX4_best_35 (by decide) (fun c9 => absurd c9 (not_not_intro c1_1)) (fun _ => ?_)
      refine lv_aload_n hx hb dX4_best_38 rfl (lv_at hl 0 rfl) ?_
      refine u_get C hW inlX4 (by decide) cC_0 rfl 1 (by decide) mw_19 rfl dX4_best_39 ?_
      refine u_callV (cf' := cC cyI cO ad n d md ((bsV n d ab be (go, ke, ha, wy)).2.2.2.2.2.1) ((bsV n d ab be (go, ke, ha, wy)).2.2.2.2.2.2.1) ((bsV n d ab be (go, ke, ha, wy)).2.2.2.2.2.2.2.1) ((bsV n d ab be (go, ke, ha, wy)).2.2.2.2.2.2.2.2) ((bsV n d ab be (go, ke, ha, wy)).2.2.2.1) ((bsV n d ab be (go, ke, ha, wy)).2.2.2.2.1) (sr + 1)) (As := []) (rest := []) (st1 := [.int ((bsV n d ab be (go, ke, ha, wy)).1)]) C hW (c_X1_leastByStretch l D cyI cO cyZ ad fa n d md go ke ha wy ab be (sr + 1)  (by omega) (by omega)) mv_yX1_leastByStretch mw_396 rfl ⟨rfl, rfl, Nat.le_of_ble_eq_true rfl, Nat.le_of_ble_eq_true rfl⟩ (by decide) cC_16 rfl rfl hl (Nat.le_of_ble_eq_true rfl) rfl rfl dX4_best_42 (fun H locs hW => ?_)
      refine lv_goto (tgt := 55) hx hb dX4_best_45 (by decide) ?_
      exact u_iret C hr hW dX4_best_55 (by simp only [btR, if_pos c1_1, if_pos c18_2]) (by simp only [bt3, if_pos c1_1, if_pos c18_2])
    · skip
      refine lv_bipush (v := -104) hx hb dX4_best_21 (by decide) ?_
      exact u_iret C hr hW dX4_best_23 (by simp only [btR, if_pos c1_1, if_neg c18_2]) (by simp only [bt3, if_pos c1_1, if_neg c18_2])
  · skip
    refine lv_iload_n hx hb dX4_best_4 rfl (lv_at hl 1 rfl) ?_
    refine lv_iconst (v := 1) hx hb dX4_best_5 (by decide) ?_
    refine lv_icmp_eq (tgt := 12) hx hb dX4_best_6 (by decide) (fun c6_3 => ?_) (fun c6_3 => ?_)
    · skip
      refine lv_aload_n hx hb dX4_best_12 rfl (lv_at hl 0 rfl) ?_
      refine u_get C hW inlX4 (by decide) cC_0 rfl 4 (by decide) mw_28 rfl dX4_best_13 ?_
      refine lv_bipush (v := 60) hx hb dX4_best_16 (by decide) ?_
      refine lv_icmp_lt (tgt := 24) hx hb dX4_best_18 (by decide) (fun c18_4 => ?_) (fun c18_4 => ?_)
      · skip
        refine lv_aload_n hx hb dX4_best_24 rfl (lv_at hl 0 rfl) ?_
        refine lv_dup hx hb dX4_best_25 rfl ?_
        refine u_get C hW inlX4 (by decide) cC_0 rfl 4 (by decide) mw_28 rfl dX4_best_26 ?_
        refine lv_iconst (v := 1) hx hb dX4_best_29 (by decide) ?_
        refine lv_iadd hx hb dX4_best_30 ?_
        refine u_put (cf' := cC cyI cO ad n d md go ke ha wy ab be (sr + 1)) C hW inlX4 tyX4 tyX4_ok nmX4 (by decide) cC_0 rfl 4 (by decide) mw_28 rfl rfl rfl (Nat.le_of_ble_eq_true rfl) cC_ssr dX4_best_31 (fun H locs hW => ?_)
        refine lv_iload_n hx hb dX4_best_34 rfl (lv_at hl 1 rfl) ?_
        refine lv_if_ne (tgt := 48) hx hb dX4_best_35 (by decide) (fun _ => ?_) (fun c9 => absurd c9 c1_1)
        refine lv_aload_n hx hb dX4_best_48 rfl (lv_at hl 0 rfl) ?_
        refine u_get C hW inlX4 (by decide) cC_0 rfl 1 (by decide) mw_19 rfl dX4_best_49 ?_
        refine u_callV (cf' := cC cyI cO ad n d md ((bpV n d (go, ke, ha, wy)).2.2.1) ((bpV n d (go, ke, ha, wy)).2.2.2.1) ((bpV n d (go, ke, ha, wy)).2.2.2.2.1) ((bpV n d (go, ke, ha, wy)).2.2.2.2.2) ab be (sr + 1)) (As := []) (rest := []) (st1 := [.int ((bpV n d (go, ke, ha, wy)).1)]) C hW (c_X1_leastBySpread l D cyI cO cyZ ad fa n d md go ke ha wy ab be (sr + 1)  (by omega) (by omega)) mv_yX1_leastBySpread mw_403 rfl ⟨rfl, rfl, Nat.le_of_ble_eq_true rfl, Nat.le_of_ble_eq_true rfl⟩ (by decide) cC_16 rfl rfl hl (Nat.le_of_ble_eq_true rfl) rfl rfl dX4_best_52 (fun H locs hW => ?_)
        exact u_iret C hr hW dX4_best_55 (by simp only [btR, if_neg c1_1, if_pos c6_3, if_pos c18_4]) (by simp only [bt3, if_neg c1_1, if_pos c6_3, if_pos c18_4])
      · skip
        refine lv_bipush (v := -104) hx hb dX4_best_21 (by decide) ?_
        exact u_iret C hr hW dX4_best_23 (by simp only [btR, if_neg c1_1, if_pos c6_3, if_neg c18_4]) (by simp only [bt3, if_neg c1_1, if_pos c6_3, if_neg c18_4])
    · skip
      refine lv_bipush (v := -102) hx hb dX4_best_9 (by decide) ?_
      exact u_iret C hr hW dX4_best_11 (by simp only [btR, if_neg c1_1, if_neg c6_3]) (by simp only [bt3, if_neg c1_1, if_neg c6_3])
set_option maxHeartbeats 4000000 in
set_option maxRecDepth 100000 in
theorem c_X4_grow (l : Launch) (D : va_G) (cyI cO cyZ : ClassId) (ad : Nat → Nat) (fa : Nat) (n : Nat) (d md : Nat → Nat → Int32) (go ke ha : Nat → Int32) (wy : Nat → Nat → Int32) (ab be sr : Int32) (cd : Int32) (hn : n ≤ 6) (h2 : 2 ≤ n) : Ct l yX4_grow (Cond.code yX4_grow cX4_grow 2 (some .int) :: wsL_law) ({ frames := 4, cells := 0, slots := 0, locals := 94 } : Room) D (ty3 cyI cO cyZ) 29 ad fa [.ref (ad 0), .int cd] (cC cyI cO ad n d md go ke ha wy ab be sr) (cC cyI cO ad n (gwD n d (LW n d ke ha wy cd) cd) md (sc1 n cd go (rdG n (tn cd) go ke ha)) (sc1 n cd ke (rdK n (tn cd) ke ha)) (sc1 n cd ha (rdH n (tn cd) ke ha)) (sc1 n cd wy (LW n d ke ha wy cd)) ab be sr) (some (.int (gwR n d (LW n d ke ha wy cd) cd))) := by
  refine Ct.of (by decide) (Nat.le_of_ble_eq_true rfl) ?_
  intro p e s m args below meth c A C hr H locs hW ls hl
  have C : Cx p s m args meth c cX4_grow 2 RX4 D (ty3 cyI cO cyZ) fa A := C
  have hx := C.1
  have hb := C.2.1
  have hl : lv_has ls 2 [(0, .ref (ad 0)), (1, .int cd)] := hl
  refine lv_aload_n hx hb dX4_grow_0 rfl (lv_at hl 0 rfl) ?_
  refine lv_iload_n hx hb dX4_grow_1 rfl (lv_at hl 1 rfl) ?_
  refine u_callV (cf' := cC cyI cO ad n d md go ke ha wy ab be sr) (As := [.int cd]) (rest := []) (st1 := [.int (icV n cd)]) C hW (c_X4_isCode l D cyI cO cyZ ad fa n d md go ke ha wy ab be sr cd (by omega) (by omega)) mv_yX4_isCode mw_290 rfl ⟨rfl, rfl, Nat.le_of_ble_eq_true rfl, Nat.le_of_ble_eq_true rfl⟩ (by decide) cC_0 rfl rfl hl (Nat.le_of_ble_eq_true rfl) rfl rfl dX4_grow_2 (fun H locs hW => ?_)
  refine lv_if_ne (tgt := 11) hx hb dX4_grow_5 (by decide) (fun c5_1 => ?_) (fun c5_1 => ?_)
  · skip
    have hc1 := (ic_tn hn c5_1).2
    have hcm := cmV_le hn
    refine lv_aload_n hx hb dX4_grow_11 rfl (lv_at hl 0 rfl) ?_
    refine u_get C hW inlX4 (by decide) cC_0 rfl 1 (by decide) mw_19 rfl dX4_grow_12 ?_
    refine lv_iload_n hx hb dX4_grow_15 rfl (lv_at hl 1 rfl) ?_
    refine u_top (show cd = nI (tn cd) from (ic_tn hn c5_1).1) ?_
    refine u_callV (cf' := cC cyI cO ad n d md (rdG n (tn cd) go ke ha) (rdK n (tn cd) ke ha) (rdH n (tn cd) ke ha) (lyV n d (Gn n (tn cd) ke ha) (Kn n (tn cd) ke ha) wy) ab be sr) (As := [.int (nI (tn cd))]) (rest := []) (st1 := []) C hW (c_X1_lay l D cyI cO cyZ ad fa n d md go ke ha wy ab be sr (tn cd) (by omega) (by omega) (by omega)) mv_yX1_lay mw_335 rfl ⟨rfl, rfl, Nat.le_of_ble_eq_true rfl, Nat.le_of_ble_eq_true rfl⟩ (by decide) cC_16 rfl rfl hl (Nat.le_of_ble_eq_true rfl) rfl rfl dX4_grow_16 (fun H locs hW => ?_)
    refine lv_aload_n hx hb dX4_grow_19 rfl (lv_at hl 0 rfl) ?_
    refine u_get C hW inlX4 (by decide) cC_0 rfl 0 (by decide) mw_15 rfl dX4_grow_20 ?_
    refine lv_aload_n hx hb dX4_grow_23 rfl (lv_at hl 0 rfl) ?_
    refine u_get C hW inlX4 (by decide) cC_0 rfl 1 (by decide) mw_19 rfl dX4_grow_24 ?_
    refine u_getN C hW inlX1 (by decide) cC_16 rfl 4 (by decide) (List.mem_of_getElem? (i := 0) rfl) rfl dX4_grow_27 ?_
    refine u_callV (cf' := cC cyI cO ad n d md (rdG n (tn cd) go ke ha) (rdK n (tn cd) ke ha) (rdH n (tn cd) ke ha) (lyV n d (Gn n (tn cd) ke ha) (Kn n (tn cd) ke ha) wy) ab be sr) (As := [.ref (ad 20)]) (rest := []) (st1 := [.int (goV n (lyV n d (Gn n (tn cd) ke ha) (Kn n (tn cd) ke ha) wy))]) C hW (c_greatestOfW l D cyI cO cyZ ad fa n d md (rdG n (tn cd) go ke ha) (rdK n (tn cd) ke ha) (rdH n (tn cd) ke ha) (lyV n d (Gn n (tn cd) ke ha) (Kn n (tn cd) ke ha) wy) ab be sr  (by omega)) mv_yX3_greatestOf mw_417 rfl ⟨rfl, rfl, Nat.le_of_ble_eq_true rfl, Nat.le_of_ble_eq_true rfl⟩ (by decide) cC_1 rfl rfl hl (Nat.le_of_ble_eq_true rfl) rfl rfl dX4_grow_30 (fun H locs hW => ?_)
    refine lv_sipush (v := 1000) hx hb dX4_grow_33 (by decide) ?_
    refine lv_icmp_le (tgt := 42) hx hb dX4_grow_36 (by decide) (fun c36_2 => ?_) (fun c36_2 => ?_)
    · skip
      refine lv_aload_n hx hb dX4_grow_42 rfl (lv_at hl 0 rfl) ?_
      refine u_get C hW inlX4 (by decide) cC_0 rfl 0 (by decide) mw_15 rfl dX4_grow_43 ?_
      refine lv_aload_n hx hb dX4_grow_46 rfl (lv_at hl 0 rfl) ?_
      refine u_get C hW inlX4 (by decide) cC_0 rfl 1 (by decide) mw_19 rfl dX4_grow_47 ?_
      refine u_getN C hW inlX1 (by decide) cC_16 rfl 4 (by decide) (List.mem_of_getElem? (i := 0) rfl) rfl dX4_grow_50 ?_
      refine u_callV (cf' := cC cyI cO ad n ((bcV n d (lyV n d (Gn n (tn cd) ke ha) (Kn n (tn cd) ke ha) wy)).2) md (rdG n (tn cd) go ke ha) (rdK n (tn cd) ke ha) (rdH n (tn cd) ke ha) (lyV n d (Gn n (tn cd) ke ha) (Kn n (tn cd) ke ha) wy) ab be sr) (As := [.ref (ad 20)]) (rest := []) (st1 := [.int ((bcV n d (lyV n d (Gn n (tn cd) ke ha) (Kn n (tn cd) ke ha) wy)).1)]) C hW (c_becomeW l D cyI cO cyZ ad fa n d md (rdG n (tn cd) go ke ha) (rdK n (tn cd) ke ha) (rdH n (tn cd) ke ha) (lyV n d (Gn n (tn cd) ke ha) (Kn n (tn cd) ke ha) wy) ab be sr  (by omega)) mv_yX3_become mw_209 rfl ⟨rfl, rfl, Nat.le_of_ble_eq_true rfl, Nat.le_of_ble_eq_true rfl⟩ (by decide) cC_1 rfl rfl hl (Nat.le_of_ble_eq_true rfl) rfl rfl dX4_grow_53 (fun H locs hW => ?_)
      exact u_iret C hr hW dX4_grow_56 (by simp only [gwR, if_neg c5_1, if_pos c36_2]) (by simp only [sc1, gwD, if_neg c5_1, if_pos c36_2])
    · skip
      refine lv_bipush (v := -103) hx hb dX4_grow_39 (by decide) ?_
      exact u_iret C hr hW dX4_grow_41 (by simp only [gwR, if_neg c5_1, if_neg c36_2]) (by simp only [sc1, gwD, if_neg c5_1, if_neg c36_2])
  · skip
    refine lv_bipush (v := -102) hx hb dX4_grow_8 (by decide) ?_
    exact u_iret C hr hW dX4_grow_10 (by simp only [gwR, if_pos c5_1]) (by simp only [sc1, gwD, if_pos c5_1])
set_option maxHeartbeats 4000000 in
set_option maxRecDepth 100000 in
theorem c_X4_weight (l : Launch) (D : va_G) (cyI cO cyZ : ClassId) (ad : Nat → Nat) (fa : Nat) (n : Nat) (d md : Nat → Nat → Int32) (go ke ha : Nat → Int32) (wy : Nat → Nat → Int32) (ab be sr : Int32) (x : Int32) (hn : n ≤ 6) : Ct l yX4_weight (Cond.code yX4_weight cX4_weight 2 (some .int) :: wsL_law) ({ frames := 5, cells := 0, slots := 0, locals := 117 } : Room) D (ty3 cyI cO cyZ) 29 ad fa [.ref (ad 0), .int x] (cC cyI cO ad n d md go ke ha wy ab be sr) (cC cyI cO ad n d md go ke ha wy ab be sr) (some (.int (wtR n d x))) := by
  refine Ct.of (by decide) (Nat.le_of_ble_eq_true rfl) ?_
  intro p e s m args below meth c A C hr H locs hW ls hl
  have C : Cx p s m args meth c cX4_weight 2 RX4 D (ty3 cyI cO cyZ) fa A := C
  have hx := C.1
  have hb := C.2.1
  have hl : lv_has ls 2 [(0, .ref (ad 0)), (1, .int x)] := hl
  refine lv_aload_n hx hb dX4_weight_0 rfl (lv_at hl 0 rfl) ?_
  refine u_get C hW inlX4 (by decide) cC_0 rfl 2 (by decide) mw_23 rfl dX4_weight_1 ?_
  refine lv_iload_n hx hb dX4_weight_4 rfl (lv_at hl 1 rfl) ?_
  refine u_callV (cf' := cC cyI cO ad n d md go ke ha wy ab be sr) (As := [.int x]) (rest := []) (st1 := [.int (ipV n x)]) C hW (c_X2_isPart l D cyI cO cyZ ad fa n d md go ke ha wy ab be sr x (by omega)) mv_yX2_isPart mw_429 rfl ⟨rfl, rfl, Nat.le_of_ble_eq_true rfl, Nat.le_of_ble_eq_true rfl⟩ (by decide) cC_27 rfl rfl hl (Nat.le_of_ble_eq_true rfl) rfl rfl dX4_weight_5 (fun H locs hW => ?_)
  refine lv_if_ne (tgt := 14) hx hb dX4_weight_8 (by decide) (fun c8_1 => ?_) (fun c8_1 => ?_)
  · skip
    refine lv_aload_n hx hb dX4_weight_14 rfl (lv_at hl 0 rfl) ?_
    refine u_callV (cf' := cC cyI cO ad n d md go ke ha wy ab be sr) (As := []) (rest := []) (st1 := [.int (inV n d)]) C hW (c_X4_isNear l D cyI cO cyZ ad fa n d md go ke ha wy ab be sr  (by omega)) mv_yX4_isNear mw_152 rfl ⟨rfl, rfl, Nat.le_of_ble_eq_true rfl, Nat.le_of_ble_eq_true rfl⟩ (by decide) cC_0 rfl rfl hl (Nat.le_of_ble_eq_true rfl) rfl rfl dX4_weight_15 (fun H locs hW => ?_)
    refine lv_if_eq (tgt := 32) hx hb dX4_weight_18 (by decide) (fun c18_2 => ?_) (fun c18_2 => ?_)
    · skip
      refine lv_bipush (v := -103) hx hb dX4_weight_32 (by decide) ?_
      exact u_iret C hr hW dX4_weight_34 (by simp only [wtR, if_neg c8_1, if_pos c18_2]) rfl
    · skip
      refine lv_aload_n hx hb dX4_weight_21 rfl (lv_at hl 0 rfl) ?_
      refine u_get C hW inlX4 (by decide) cC_0 rfl 2 (by decide) mw_23 rfl dX4_weight_22 ?_
      refine lv_iload_n hx hb dX4_weight_25 rfl (lv_at hl 1 rfl) ?_
      refine u_callV (cf' := cC cyI cO ad n d md go ke ha wy ab be sr) (As := [.int x]) (rest := []) (st1 := [.int (weV n d x)]) C hW (c_X2_weigh l D cyI cO cyZ ad fa n d md go ke ha wy ab be sr x (by omega)) mv_yX2_weigh mw_440 rfl ⟨rfl, rfl, Nat.le_of_ble_eq_true rfl, Nat.le_of_ble_eq_true rfl⟩ (by decide) cC_27 rfl rfl hl (Nat.le_of_ble_eq_true rfl) rfl rfl dX4_weight_26 (fun H locs hW => ?_)
      refine lv_goto (tgt := 34) hx hb dX4_weight_29 (by decide) ?_
      exact u_iret C hr hW dX4_weight_34 (by simp only [wtR, if_neg c8_1, if_neg c18_2]) rfl
  · skip
    refine lv_bipush (v := -102) hx hb dX4_weight_11 (by decide) ?_
    exact u_iret C hr hW dX4_weight_13 (by simp only [wtR, if_pos c8_1]) rfl
set_option maxHeartbeats 4000000 in
set_option maxRecDepth 100000 in
theorem c_X4_parts (l : Launch) (D : va_G) (cyI cO cyZ : ClassId) (ad : Nat → Nat) (fa : Nat) (n : Nat) (d md : Nat → Nat → Int32) (go ke ha : Nat → Int32) (wy : Nat → Nat → Int32) (ab be sr : Int32)  (hn : n ≤ 6) (h2 : 2 ≤ n) : Ct l yX4_parts (Cond.code yX4_parts cX4_parts 1 (some .int) :: wsL_law) ({ frames := 5, cells := 0, slots := 0, locals := 126 } : Room) D (ty3 cyI cO cyZ) 29 ad fa [.ref (ad 0)] (cC cyI cO ad n d md go ke ha wy ab be sr) (cC cyI cO ad n d md go ke ha wy ab be sr) (some (.int (paR n d))) := by
  refine Ct.of (by decide) (Nat.le_of_ble_eq_true rfl) ?_
  intro p e s m args below meth c A C hr H locs hW ls hl
  have C : Cx p s m args meth c cX4_parts 1 RX4 D (ty3 cyI cO cyZ) fa A := C
  have hx := C.1
  have hb := C.2.1
  have hl : lv_has ls 1 [(0, .ref (ad 0))] := hl
  refine lv_aload_n hx hb dX4_parts_0 rfl (lv_at hl 0 rfl) ?_
  refine u_callV (cf' := cC cyI cO ad n d md go ke ha wy ab be sr) (As := []) (rest := []) (st1 := [.int (inV n d)]) C hW (c_X4_isNear l D cyI cO cyZ ad fa n d md go ke ha wy ab be sr  (by omega)) mv_yX4_isNear mw_152 rfl ⟨rfl, rfl, Nat.le_of_ble_eq_true rfl, Nat.le_of_ble_eq_true rfl⟩ (by decide) cC_0 rfl rfl hl (Nat.le_of_ble_eq_true rfl) rfl rfl dX4_parts_1 (fun H locs hW => ?_)
  refine lv_if_eq (tgt := 17) hx hb dX4_parts_4 (by decide) (fun c4_1 => ?_) (fun c4_1 => ?_)
  · skip
    refine lv_bipush (v := -103) hx hb dX4_parts_17 (by decide) ?_
    exact u_iret C hr hW dX4_parts_19 (by simp only [paR, if_pos c4_1]) rfl
  · skip
    refine lv_aload_n hx hb dX4_parts_7 rfl (lv_at hl 0 rfl) ?_
    refine u_get C hW inlX4 (by decide) cC_0 rfl 2 (by decide) mw_23 rfl dX4_parts_8 ?_
    refine u_callV (cf' := cC cyI cO ad n d md go ke ha wy ab be sr) (As := []) (rest := []) (st1 := [.int (hwV n d)]) C hW (c_X2_howManyWeigh l D cyI cO cyZ ad fa n d md go ke ha wy ab be sr  (by omega) (by omega)) mv_yX2_howManyWeigh mw_470 rfl ⟨rfl, rfl, Nat.le_of_ble_eq_true rfl, Nat.le_of_ble_eq_true rfl⟩ (by decide) cC_27 rfl rfl hl (Nat.le_of_ble_eq_true rfl) rfl rfl dX4_parts_11 (fun H locs hW => ?_)
    refine lv_goto (tgt := 19) hx hb dX4_parts_14 (by decide) ?_
    exact u_iret C hr hW dX4_parts_19 (by simp only [paR, if_neg c4_1]) rfl
set_option maxHeartbeats 4000000 in
set_option maxRecDepth 100000 in
theorem c_X4_rest (l : Launch) (D : va_G) (cyI cO cyZ : ClassId) (ad : Nat → Nat) (fa : Nat) (n : Nat) (d md : Nat → Nat → Int32) (go ke ha : Nat → Int32) (wy : Nat → Nat → Int32) (ab be sr : Int32) (x y : Int32) (hn : n ≤ 6) (h2 : 2 ≤ n) : Ct l yX4_rest (Cond.code yX4_rest cX4_rest 3 (some .int) :: wsL_law) ({ frames := 5, cells := 0, slots := 0, locals := 128 } : Room) D (ty3 cyI cO cyZ) 29 ad fa [.ref (ad 0), .int x, .int y] (cC cyI cO ad n d md go ke ha wy ab be sr) (cC cyI cO ad n d md go ke ha wy ab be sr) (some (.int (reR n d x y))) := by
  refine Ct.of (by decide) (Nat.le_of_ble_eq_true rfl) ?_
  intro p e s m args below meth c A C hr H locs hW ls hl
  have C : Cx p s m args meth c cX4_rest 3 RX4 D (ty3 cyI cO cyZ) fa A := C
  have hx := C.1
  have hb := C.2.1
  have hl : lv_has ls 3 [(0, .ref (ad 0)), (1, .int x), (2, .int y)] := hl
  refine lv_aload_n hx hb dX4_rest_0 rfl (lv_at hl 0 rfl) ?_
  refine lv_iload_n hx hb dX4_rest_1 rfl (lv_at hl 1 rfl) ?_
  refine lv_iload_n hx hb dX4_rest_2 rfl (lv_at hl 2 rfl) ?_
  refine u_callV (cf' := cC cyI cO ad n d md go ke ha wy ab be sr) (As := [.int x, .int y]) (rest := []) (st1 := [.int (kn2 n x y)]) C hW (c_X4_areKnown l D cyI cO cyZ ad fa n d md go ke ha wy ab be sr x y ) mv_yX4_areKnown mw_98 rfl ⟨rfl, rfl, Nat.le_of_ble_eq_true rfl, Nat.le_of_ble_eq_true rfl⟩ (by decide) cC_0 rfl rfl hl (Nat.le_of_ble_eq_true rfl) rfl rfl dX4_rest_3 (fun H locs hW => ?_)
  refine lv_if_ne (tgt := 13) hx hb dX4_rest_6 (by decide) (fun c6_1 => ?_) (fun c6_1 => ?_)
  · skip
    refine lv_aload_n hx hb dX4_rest_13 rfl (lv_at hl 0 rfl) ?_
    refine u_callV (cf' := cC cyI cO ad n d md go ke ha wy ab be sr) (As := []) (rest := []) (st1 := [.int (inV n d)]) C hW (c_X4_isNear l D cyI cO cyZ ad fa n d md go ke ha wy ab be sr  (by omega)) mv_yX4_isNear mw_152 rfl ⟨rfl, rfl, Nat.le_of_ble_eq_true rfl, Nat.le_of_ble_eq_true rfl⟩ (by decide) cC_0 rfl rfl hl (Nat.le_of_ble_eq_true rfl) rfl rfl dX4_rest_14 (fun H locs hW => ?_)
    refine lv_if_eq (tgt := 32) hx hb dX4_rest_17 (by decide) (fun c17_2 => ?_) (fun c17_2 => ?_)
    · skip
      refine lv_sipush (v := -10103) hx hb dX4_rest_32 (by decide) ?_
      exact u_iret C hr hW dX4_rest_35 (by simp only [reR, if_neg c6_1, if_pos c17_2]) rfl
    · skip
      have hk1 := (kn2_tn hn c6_1).1.2
      have hk2 := (kn2_tn hn c6_1).2.2
      refine lv_aload_n hx hb dX4_rest_20 rfl (lv_at hl 0 rfl) ?_
      refine u_get C hW inlX4 (by decide) cC_0 rfl 2 (by decide) mw_23 rfl dX4_rest_21 ?_
      refine lv_iload_n hx hb dX4_rest_24 rfl (lv_at hl 1 rfl) ?_
      refine u_top (show x = nI (tn x) from (kn2_tn hn c6_1).1.1) ?_
      refine lv_iload_n hx hb dX4_rest_25 rfl (lv_at hl 2 rfl) ?_
      refine u_top (show y = nI (tn y) from (kn2_tn hn c6_1).2.1) ?_
      refine u_callV (cf' := cC cyI cO ad n d md go ke ha wy ab be sr) (As := [.int (nI (tn x)), .int (nI (tn y))]) (rest := []) (st1 := [.int (loV n d (tn x) (tn y))]) C hW (c_X2_leftOf l D cyI cO cyZ ad fa n d md go ke ha wy ab be sr (tn x) (tn y) (by omega) (by omega) (by omega) (by omega)) mv_yX2_leftOf mw_483 rfl ⟨rfl, rfl, Nat.le_of_ble_eq_true rfl, Nat.le_of_ble_eq_true rfl⟩ (by decide) cC_27 rfl rfl hl (Nat.le_of_ble_eq_true rfl) rfl rfl dX4_rest_26 (fun H locs hW => ?_)
      refine lv_goto (tgt := 35) hx hb dX4_rest_29 (by decide) ?_
      exact u_iret C hr hW dX4_rest_35 (by simp only [reR, if_neg c6_1, if_neg c17_2]) rfl
  · skip
    refine lv_sipush (v := -10101) hx hb dX4_rest_9 (by decide) ?_
    exact u_iret C hr hW dX4_rest_12 (by simp only [reR, if_pos c6_1]) rfl
set_option maxHeartbeats 4000000 in
set_option maxRecDepth 100000 in
theorem c_X4_drawn (l : Launch) (D : va_G) (cyI cO cyZ : ClassId) (ad : Nat → Nat) (fa : Nat) (n : Nat) (d md : Nat → Nat → Int32) (go ke ha : Nat → Int32) (wy : Nat → Nat → Int32) (ab be sr : Int32) (x y r : Int32) (hn : n ≤ 6) : Ct l yX4_drawn (Cond.code yX4_drawn cX4_drawn 4 (some .int) :: wsL_law) ({ frames := 2, cells := 0, slots := 0, locals := 49 } : Room) D (ty3 cyI cO cyZ) 29 ad fa [.ref (ad 0), .int x, .int y, .int r] (cC cyI cO ad n d md go ke ha wy ab be sr) (cC cyI cO ad n d md go ke ha wy ab be sr) (some (.int (drR n d x y r))) := by
  refine Ct.of (by decide) (Nat.le_of_ble_eq_true rfl) ?_
  intro p e s m args below meth c A C hr H locs hW ls hl
  have C : Cx p s m args meth c cX4_drawn 4 RX4 D (ty3 cyI cO cyZ) fa A := C
  have hx := C.1
  have hb := C.2.1
  have hl : lv_has ls 4 [(0, .ref (ad 0)), (1, .int x), (2, .int y), (3, .int r)] := hl
  refine lv_aload_n hx hb dX4_drawn_0 rfl (lv_at hl 0 rfl) ?_
  refine lv_iload_n hx hb dX4_drawn_1 rfl (lv_at hl 1 rfl) ?_
  refine lv_iload_n hx hb dX4_drawn_2 rfl (lv_at hl 2 rfl) ?_
  refine u_callV (cf' := cC cyI cO ad n d md go ke ha wy ab be sr) (As := [.int x, .int y]) (rest := []) (st1 := [.int (kn2 n x y)]) C hW (c_X4_areKnown l D cyI cO cyZ ad fa n d md go ke ha wy ab be sr x y ) mv_yX4_areKnown mw_98 rfl ⟨rfl, rfl, Nat.le_of_ble_eq_true rfl, Nat.le_of_ble_eq_true rfl⟩ (by decide) cC_0 rfl rfl hl (Nat.le_of_ble_eq_true rfl) rfl rfl dX4_drawn_3 (fun H locs hW => ?_)
  refine lv_if_ne (tgt := 12) hx hb dX4_drawn_6 (by decide) (fun c6_1 => ?_) (fun c6_1 => ?_)
  · skip
    refine lv_iload_n hx hb dX4_drawn_12 rfl (lv_at hl 3 rfl) ?_
    refine u_callS (cf' := cC cyI cO ad n d md go ke ha wy ab be sr) (As := [.int r]) (rest := []) (st1 := [.int (irV r)]) C hW (c_X4_isReach l D cyI cO cyZ ad fa n d md go ke ha wy ab be sr r ) ms_yX4_isReach mw_250 rfl ⟨rfl, rfl, Nat.le_of_ble_eq_true rfl, Nat.le_of_ble_eq_true rfl⟩ hl (Nat.le_of_ble_eq_true rfl) rfl rfl dX4_drawn_13 (fun H locs hW => ?_)
    refine lv_if_eq (tgt := 32) hx hb dX4_drawn_16 (by decide) (fun c16_2 => ?_) (fun c16_2 => ?_)
    · skip
      refine lv_bipush (v := -102) hx hb dX4_drawn_32 (by decide) ?_
      exact u_iret C hr hW dX4_drawn_34 (by simp only [drR, if_neg c6_1, if_pos c16_2]) rfl
    · skip
      have hk1 := (kn2_tn hn c6_1).1.2
      have hk2 := (kn2_tn hn c6_1).2.2
      refine lv_aload_n hx hb dX4_drawn_19 rfl (lv_at hl 0 rfl) ?_
      refine u_get C hW inlX4 (by decide) cC_0 rfl 3 (by decide) mw_27 rfl dX4_drawn_20 ?_
      refine lv_iload_n hx hb dX4_drawn_23 rfl (lv_at hl 1 rfl) ?_
      refine u_top (show x = nI (tn x) from (kn2_tn hn c6_1).1.1) ?_
      refine lv_iload_n hx hb dX4_drawn_24 rfl (lv_at hl 2 rfl) ?_
      refine u_top (show y = nI (tn y) from (kn2_tn hn c6_1).2.1) ?_
      refine lv_iload_n hx hb dX4_drawn_25 rfl (lv_at hl 3 rfl) ?_
      refine u_callV (cf' := cC cyI cO ad n d md go ke ha wy ab be sr) (As := [.int (nI (tn x)), .int (nI (tn y)), .int r]) (rest := []) (st1 := [.int (otV n d (tn x) (tn y) r)]) C hW (c_X0_ordersThatPart l D cyI cO cyZ ad fa n d md go ke ha wy ab be sr (tn x) (tn y) r (by omega) (by omega) (by omega)) mv_yX0_ordersThatPart mw_495 rfl ⟨rfl, rfl, Nat.le_of_ble_eq_true rfl, Nat.le_of_ble_eq_true rfl⟩ (by decide) cC_28 rfl rfl hl (Nat.le_of_ble_eq_true rfl) rfl rfl dX4_drawn_26 (fun H locs hW => ?_)
      refine lv_goto (tgt := 34) hx hb dX4_drawn_29 (by decide) ?_
      exact u_iret C hr hW dX4_drawn_34 (by simp only [drR, if_neg c6_1, if_neg c16_2]) rfl
  · skip
    refine lv_bipush (v := -101) hx hb dX4_drawn_9 (by decide) ?_
    exact u_iret C hr hW dX4_drawn_11 (by simp only [drR, if_pos c6_1]) rfl
set_option maxHeartbeats 4000000 in
set_option maxRecDepth 100000 in
theorem c_X4_goes (l : Launch) (D : va_G) (cyI cO cyZ : ClassId) (ad : Nat → Nat) (fa : Nat) (n : Nat) (d md : Nat → Nat → Int32) (go ke ha : Nat → Int32) (wy : Nat → Nat → Int32) (ab be sr : Int32) (x q r : Int32) (hn : n ≤ 6) (h2 : 2 ≤ n) : Ct l yX4_goes (Cond.code yX4_goes cX4_goes 4 (some .int) :: wsL_law) ({ frames := 2, cells := 0, slots := 0, locals := 53 } : Room) D (ty3 cyI cO cyZ) 29 ad fa [.ref (ad 0), .int x, .int q, .int r] (cC cyI cO ad n d md go ke ha wy ab be sr) (cC cyI cO ad n d md go ke ha wy ab be sr) (some (.int (geR n d x q r))) := by
  refine Ct.of (by decide) (Nat.le_of_ble_eq_true rfl) ?_
  intro p e s m args below meth c A C hr H locs hW ls hl
  have C : Cx p s m args meth c cX4_goes 4 RX4 D (ty3 cyI cO cyZ) fa A := C
  have hx := C.1
  have hb := C.2.1
  have hl : lv_has ls 4 [(0, .ref (ad 0)), (1, .int x), (2, .int q), (3, .int r)] := hl
  refine lv_aload_n hx hb dX4_goes_0 rfl (lv_at hl 0 rfl) ?_
  refine lv_iload_n hx hb dX4_goes_1 rfl (lv_at hl 1 rfl) ?_
  refine u_callV (cf' := cC cyI cO ad n d md go ke ha wy ab be sr) (As := [.int x]) (rest := []) (st1 := [.int (kn n x)]) C hW (c_X4_isKnown l D cyI cO cyZ ad fa n d md go ke ha wy ab be sr x ) mv_yX4_isKnown mw_102 rfl ⟨rfl, rfl, Nat.le_of_ble_eq_true rfl, Nat.le_of_ble_eq_true rfl⟩ (by decide) cC_0 rfl rfl hl (Nat.le_of_ble_eq_true rfl) rfl rfl dX4_goes_2 (fun H locs hW => ?_)
  refine lv_if_ne (tgt := 11) hx hb dX4_goes_5 (by decide) (fun c5_1 => ?_) (fun c5_1 => ?_)
  · skip
    refine lv_iload_n hx hb dX4_goes_11 rfl (lv_at hl 2 rfl) ?_
    refine lv_if_lt (tgt := 33) hx hb dX4_goes_12 (by decide) (fun c12_2 => ?_) (fun c12_2 => ?_)
    · skip
      refine lv_bipush (v := -102) hx hb dX4_goes_33 (by decide) ?_
      exact u_iret C hr hW dX4_goes_35 (by simp only [geR, if_neg c5_1, if_pos c12_2]) rfl
    · skip
      refine lv_iload_n hx hb dX4_goes_15 rfl (lv_at hl 2 rfl) ?_
      refine lv_aload_n hx hb dX4_goes_16 rfl (lv_at hl 0 rfl) ?_
      refine u_get C hW inlX4 (by decide) cC_0 rfl 3 (by decide) mw_27 rfl dX4_goes_17 ?_
      refine u_callV (cf' := cC cyI cO ad n d md go ke ha wy ab be sr) (As := []) (rest := [.int q]) (st1 := [.int (nI (fct n)), .int q]) C hW (c_X0_howMany l D cyI cO cyZ ad fa n d md go ke ha wy ab be sr  (by omega)) mv_yX0_howMany mw_534 rfl ⟨rfl, rfl, Nat.le_of_ble_eq_true rfl, Nat.le_of_ble_eq_true rfl⟩ (by decide) cC_28 rfl rfl hl (Nat.le_of_ble_eq_true rfl) rfl rfl dX4_goes_20 (fun H locs hW => ?_)
      refine lv_icmp_ge (tgt := 33) hx hb dX4_goes_23 (by decide) (fun c23_3 => ?_) (fun c23_3 => ?_)
      · skip
        refine lv_bipush (v := -102) hx hb dX4_goes_33 (by decide) ?_
        exact u_iret C hr hW dX4_goes_35 (by simp only [geR, if_neg c5_1, if_neg c12_2, if_pos c23_3]) rfl
      · skip
        refine lv_iload_n hx hb dX4_goes_26 rfl (lv_at hl 3 rfl) ?_
        refine u_callS (cf' := cC cyI cO ad n d md go ke ha wy ab be sr) (As := [.int r]) (rest := []) (st1 := [.int (irV r)]) C hW (c_X4_isReach l D cyI cO cyZ ad fa n d md go ke ha wy ab be sr r ) ms_yX4_isReach mw_250 rfl ⟨rfl, rfl, Nat.le_of_ble_eq_true rfl, Nat.le_of_ble_eq_true rfl⟩ hl (Nat.le_of_ble_eq_true rfl) rfl rfl dX4_goes_27 (fun H locs hW => ?_)
        refine lv_if_ne (tgt := 36) hx hb dX4_goes_30 (by decide) (fun c30_4 => ?_) (fun c30_4 => ?_)
        · skip
          have hk1 := (kn_tn hn c5_1).2
          have hft := fct_in hn
          have hq1 := tn_lt (by omega) c12_2 c23_3
          refine lv_aload_n hx hb dX4_goes_36 rfl (lv_at hl 0 rfl) ?_
          refine u_get C hW inlX4 (by decide) cC_0 rfl 3 (by decide) mw_27 rfl dX4_goes_37 ?_
          refine lv_iload_n hx hb dX4_goes_40 rfl (lv_at hl 1 rfl) ?_
          refine u_top (show x = nI (tn x) from (kn_tn hn c5_1).1) ?_
          refine lv_iload_n hx hb dX4_goes_41 rfl (lv_at hl 2 rfl) ?_
          refine u_top (show q = nI (tn q) from tn_of c12_2) ?_
          refine lv_iload_n hx hb dX4_goes_42 rfl (lv_at hl 3 rfl) ?_
          refine u_callV (cf' := cC cyI cO ad n d md go ke ha wy ab be sr) (As := [.int (nI (tn x)), .int (nI (tn q)), .int r]) (rest := []) (st1 := [.int (nI (fwD n d (tn x) r n (nI (2 ^ n - 1)) (nI (tn q))))]) C hW (c_X0_firstWithin l D cyI cO cyZ ad fa n d md go ke ha wy ab be sr (tn x) (tn q) r (by omega) (by omega) (by omega)) mv_yX0_firstWithin mw_535 rfl ⟨rfl, rfl, Nat.le_of_ble_eq_true rfl, Nat.le_of_ble_eq_true rfl⟩ (by decide) cC_28 rfl rfl hl (Nat.le_of_ble_eq_true rfl) rfl rfl dX4_goes_43 (fun H locs hW => ?_)
          exact u_iret C hr hW dX4_goes_46 (by simp only [geR, if_neg c5_1, if_neg c12_2, if_neg c23_3, if_neg c30_4]) rfl
        · skip
          refine lv_bipush (v := -102) hx hb dX4_goes_33 (by decide) ?_
          exact u_iret C hr hW dX4_goes_35 (by simp only [geR, if_neg c5_1, if_neg c12_2, if_neg c23_3, if_pos c30_4]) rfl
  · skip
    refine lv_bipush (v := -101) hx hb dX4_goes_8 (by decide) ?_
    exact u_iret C hr hW dX4_goes_10 (by simp only [geR, if_pos c5_1]) rfl
set_option maxHeartbeats 4000000 in
set_option maxRecDepth 100000 in
theorem c_X4_count (l : Launch) (D : va_G) (cyI cO cyZ : ClassId) (ad : Nat → Nat) (fa : Nat) (n : Nat) (d md : Nat → Nat → Int32) (go ke ha : Nat → Int32) (wy : Nat → Nat → Int32) (ab be sr : Int32) (w : Int32) (hn : n ≤ 6) : Ct l yX4_count (Cond.code yX4_count cX4_count 2 (some .int) :: wsL_law) ({ frames := 2, cells := 0, slots := 0, locals := 50 } : Room) D (ty3 cyI cO cyZ) 29 ad fa [.ref (ad 0), .int w] (cC cyI cO ad n d md go ke ha wy ab be sr) (cC cyI cO ad n d md go ke ha wy ab be sr) (some (.int (ctR n d sr w))) := by
  refine Ct.of (by decide) (Nat.le_of_ble_eq_true rfl) ?_
  intro p e s m args below meth c A C hr H locs hW ls hl
  have C : Cx p s m args meth c cX4_count 2 RX4 D (ty3 cyI cO cyZ) fa A := C
  have hx := C.1
  have hb := C.2.1
  have hl : lv_has ls 2 [(0, .ref (ad 0)), (1, .int w)] := hl
  refine lv_iload_n hx hb dX4_count_0 rfl (lv_at hl 1 rfl) ?_
  by_cases hv0 : w = 0
  · obtain rfl := hv0
    refine lv_tableIn (off := 31) (tgt := 32) hx hb dX4_count_1 (by decide) (by decide) rfl (by decide) ?_
    refine lv_aload_n hx hb dX4_count_32 rfl (lv_at hl 0 rfl) ?_
    refine u_get C hW inlX4 (by decide) cC_0 rfl 0 (by decide) mw_15 rfl dX4_count_33 ?_
    refine u_getN C hW inlX3 (by decide) cC_1 rfl 2 (by decide) (List.mem_of_getElem? (i := 3) rfl) rfl dX4_count_36 ?_
    exact u_iret C hr hW dX4_count_39 (by simp only [ctR, if_true, if_pos (show (0 : Int32) = 0 from rfl)]) rfl
  by_cases hv1 : w = 1
  · obtain rfl := hv1
    refine lv_tableIn (off := 39) (tgt := 40) hx hb dX4_count_1 (by decide) (by decide) rfl (by decide) ?_
    refine lv_aload_n hx hb dX4_count_40 rfl (lv_at hl 0 rfl) ?_
    refine u_get C hW inlX4 (by decide) cC_0 rfl 0 (by decide) mw_15 rfl dX4_count_41 ?_
    refine lv_aload_n hx hb dX4_count_44 rfl (lv_at hl 0 rfl) ?_
    refine u_get C hW inlX4 (by decide) cC_0 rfl 0 (by decide) mw_15 rfl dX4_count_45 ?_
    refine u_getN C hW inlX3 (by decide) cC_1 rfl 0 (by decide) (List.mem_of_getElem? (i := 4) rfl) rfl dX4_count_48 ?_
    refine u_callV (cf' := cC cyI cO ad n d md go ke ha wy ab be sr) (As := [.ref (ad 2)]) (rest := []) (st1 := [.int (suV n d)]) C hW (c_sumOfD l D cyI cO cyZ ad fa n d md go ke ha wy ab be sr  (by omega)) mv_yX3_sumOf mw_380 rfl ⟨rfl, rfl, Nat.le_of_ble_eq_true rfl, Nat.le_of_ble_eq_true rfl⟩ (by decide) cC_1 rfl rfl hl (Nat.le_of_ble_eq_true rfl) rfl rfl dX4_count_51 (fun H locs hW => ?_)
    exact u_iret C hr hW dX4_count_54 (by simp only [ctR, if_true, if_neg (show ¬ (1 : Int32) = 0 by decide), if_pos (show (1 : Int32) = 1 from rfl)]) rfl
  by_cases hv2 : w = 2
  · obtain rfl := hv2
    refine lv_tableIn (off := 54) (tgt := 55) hx hb dX4_count_1 (by decide) (by decide) rfl (by decide) ?_
    refine lv_aload_n hx hb dX4_count_55 rfl (lv_at hl 0 rfl) ?_
    refine u_get C hW inlX4 (by decide) cC_0 rfl 0 (by decide) mw_15 rfl dX4_count_56 ?_
    refine lv_aload_n hx hb dX4_count_59 rfl (lv_at hl 0 rfl) ?_
    refine u_get C hW inlX4 (by decide) cC_0 rfl 0 (by decide) mw_15 rfl dX4_count_60 ?_
    refine u_getN C hW inlX3 (by decide) cC_1 rfl 0 (by decide) (List.mem_of_getElem? (i := 4) rfl) rfl dX4_count_63 ?_
    refine u_callV (cf' := cC cyI cO ad n d md go ke ha wy ab be sr) (As := [.ref (ad 2)]) (rest := []) (st1 := [.int (goV n d)]) C hW (c_greatestOfD l D cyI cO cyZ ad fa n d md go ke ha wy ab be sr  (by omega)) mv_yX3_greatestOf mw_417 rfl ⟨rfl, rfl, Nat.le_of_ble_eq_true rfl, Nat.le_of_ble_eq_true rfl⟩ (by decide) cC_1 rfl rfl hl (Nat.le_of_ble_eq_true rfl) rfl rfl dX4_count_66 (fun H locs hW => ?_)
    exact u_iret C hr hW dX4_count_69 (by simp only [ctR, if_true, if_neg (show ¬ (2 : Int32) = 0 by decide), if_neg (show ¬ (2 : Int32) = 1 by decide), if_pos (show (2 : Int32) = 2 from rfl)]) rfl
  by_cases hv3 : w = 3
  · obtain rfl := hv3
    refine lv_tableIn (off := 69) (tgt := 70) hx hb dX4_count_1 (by decide) (by decide) rfl (by decide) ?_
    refine lv_aload_n hx hb dX4_count_70 rfl (lv_at hl 0 rfl) ?_
    refine u_get C hW inlX4 (by decide) cC_0 rfl 4 (by decide) mw_28 rfl dX4_count_71 ?_
    exact u_iret C hr hW dX4_count_74 (by simp only [ctR, if_true, if_neg (show ¬ (3 : Int32) = 0 by decide), if_neg (show ¬ (3 : Int32) = 1 by decide), if_neg (show ¬ (3 : Int32) = 2 by decide), if_pos (show (3 : Int32) = 3 from rfl)]) rfl
  refine lv_tableOut (tgt := 75) hx hb dX4_count_1 (sw_out hv0 hv1 hv2 hv3) (by decide) ?_
  refine lv_bipush (v := -102) hx hb dX4_count_75 (by decide) ?_
  exact u_iret C hr hW dX4_count_77 (by simp only [ctR, if_true, if_neg hv0, if_neg hv1, if_neg hv2, if_neg hv3]) rfl
set_option maxHeartbeats 4000000 in
set_option maxRecDepth 100000 in
theorem c_X4_taken (l : Launch) (D : va_G) (cyI cO cyZ : ClassId) (ad : Nat → Nat) (fa : Nat) (n : Nat) (d md : Nat → Nat → Int32) (go ke ha : Nat → Int32) (wy : Nat → Nat → Int32) (ab be sr : Int32) (u v : Int64)  : Ct l yX4_taken (Cond.code yX4_taken cX4_taken 4 (some .long) :: wsL_law) ({ frames := 0, cells := 0, slots := 0, locals := 0 } : Room) D (ty3 cyI cO cyZ) 29 ad fa [.long u, .long v] (cC cyI cO ad n d md go ke ha wy ab be sr) (cC cyI cO ad n d md go ke ha wy ab be sr) (some (.long (tkV u v))) := by
  refine Ct.of (by decide) (Nat.le_of_ble_eq_true rfl) ?_
  intro p e s m args below meth c A C hr H locs hW ls hl
  have C : Cx p s m args meth c cX4_taken 4 RX4 D (ty3 cyI cO cyZ) fa A := C
  have hx := C.1
  have hb := C.2.1
  have hl : lv_has ls 4 [(0, .long u), (2, .long v)] := hl
  refine lv_ldc2 (v := 31) hx hb C.2.2.2.1 (C.2.2.2.2.1 _ mw_563) dX4_taken_0 ?_
  refine lv_lload_n hx hb dX4_taken_3 rfl (lv_at hl 0 rfl) ?_
  refine lv_lmul hx hb dX4_taken_4 ?_
  refine lv_lload_n hx hb dX4_taken_5 rfl (lv_at hl 1 rfl) ?_
  refine lv_ladd hx hb dX4_taken_6 ?_
  exact u_lret C hr hW dX4_taken_7 rfl rfl
set_option maxHeartbeats 4000000 in
set_option maxRecDepth 100000 in
theorem c_X4_digest (l : Launch) (D : va_G) (cyI cO cyZ : ClassId) (ad : Nat → Nat) (fa : Nat) (n : Nat) (d md : Nat → Nat → Int32) (go ke ha : Nat → Int32) (wy : Nat → Nat → Int32) (ab be sr : Int32)  (hn : n ≤ 6) : Ct l yX4_digest (Cond.code yX4_digest cX4_digest 6 (some .long) :: wsL_law) ({ frames := 4, cells := 0, slots := 0, locals := 94 } : Room) D (ty3 cyI cO cyZ) 29 ad fa [.ref (ad 0)] (cC cyI cO ad n d md go ke ha wy ab be sr) (cC cyI cO ad n d (clV n d md 1) go ke ha wy ab be sr) (some (.long (dgR n d (clV n d md 1) sr))) := by
  refine Ct.of (by decide) (Nat.le_of_ble_eq_true rfl) ?_
  intro p e s m args below meth c A C hr H locs hW ls hl
  have C : Cx p s m args meth c cX4_digest 6 RX4 D (ty3 cyI cO cyZ) fa A := C
  have hx := C.1
  have hb := C.2.1
  have hl : lv_has ls 6 [(0, .ref (ad 0))] := hl
  refine lv_aload_n hx hb dX4_digest_0 rfl (lv_at hl 0 rfl) ?_
  refine u_get C hW inlX4 (by decide) cC_0 rfl 0 (by decide) mw_15 rfl dX4_digest_1 ?_
  refine lv_iconst (v := 1) hx hb dX4_digest_4 (by decide) ?_
  refine u_callV (cf' := cC cyI cO ad n d (clV n d md 1) go ke ha wy ab be sr) (As := [.int 1]) (rest := []) (st1 := [.ref (ad 9)]) C hW (c_X3_closed l D cyI cO cyZ ad fa n d md go ke ha wy ab be sr 1 (by omega)) mv_yX3_closed mw_194 rfl ⟨rfl, rfl, Nat.le_of_ble_eq_true rfl, Nat.le_of_ble_eq_true rfl⟩ (by decide) cC_1 rfl rfl hl (Nat.le_of_ble_eq_true rfl) rfl rfl dX4_digest_5 (fun H locs hW => ?_)
  refine lv_astore_n (lv' := [(1, .ref (ad 9)), (0, .ref (ad 0))]) hx hb dX4_digest_8 rfl hl (by decide) rfl (fun ls hl => ?_)
  refine lv_ldc2 (v := 197) hx hb C.2.2.2.1 (C.2.2.2.2.1 _ mw_559) dX4_digest_9 ?_
  refine lv_aload_n hx hb dX4_digest_12 rfl (lv_at hl 1 rfl) ?_
  refine u_get C hW inlX4 (by decide) cC_0 rfl 0 (by decide) mw_15 rfl dX4_digest_13 ?_
  refine u_getN C hW inlX3 (by decide) cC_1 rfl 2 (by decide) (List.mem_of_getElem? (i := 3) rfl) rfl dX4_digest_16 ?_
  refine lv_i2l hx hb dX4_digest_19 rfl ?_
  refine u_callS (cf' := cC cyI cO ad n d (clV n d md 1) go ke ha wy ab be sr) (As := [.long 197, .long ((nI n).toInt64)]) (rest := []) (st1 := [.long (tkV 197 ((nI n).toInt64))]) C hW (c_X4_taken l D cyI cO cyZ ad fa n d (clV n d md 1) go ke ha wy ab be sr 197 ((nI n).toInt64) ) ms_yX4_taken mw_560 rfl ⟨rfl, rfl, Nat.le_of_ble_eq_true rfl, Nat.le_of_ble_eq_true rfl⟩ hl (Nat.le_of_ble_eq_true rfl) rfl rfl dX4_digest_20 (fun H locs hW => ?_)
  refine lv_lstore_n (lv' := [(2, .long (tkV 197 ((nI n).toInt64))), (1, .ref (ad 9)), (0, .ref (ad 0))]) hx hb dX4_digest_23 rfl hl (by decide) rfl (fun ls hl => ?_)
  refine lv_iconst (v := 0) hx hb dX4_digest_24 (by decide) ?_
  refine lv_istore (lv' := [(4, .int 0), (2, .long (tkV 197 ((nI n).toInt64))), (1, .ref (ad 9)), (0, .ref (ad 0))]) hx hb dX4_digest_25 hl (by decide) rfl (fun ls hl => ?_)
  have L27 : ∀ (k27 : Nat) (i : Nat) (hh : Int64), i + k27 = n → lp (dgO n d (clV n d md 1)) i k27 hh = dgH n d (clV n d md 1) → ∀ (H : Heap) (locs : List Loc), Wd D 29 ad (cC cyI cO ad n d (clV n d md 1) go ke ha wy ab be sr) A s.heap H locs → ∀ ls : Array Slot, lv_has ls 6 [(4, .int (nI i)), (0, .ref (ad 0)), (1, .ref (ad 9)), (2, .long hh)] → W p l e ({ frames := 4, cells := 0, slots := 0, locals := 94 } : Room) s m args below meth c H locs 0 0 (MQ below (uQ D 29 ad (cC cyI cO ad n d (clV n d md 1) go ke ha wy ab be sr) (some (.long (dgR n d (clV n d md 1) sr))) A) args s 0 0 A) (F0 m 27 ls []) := by
    intro k27
    induction k27 with
    | zero =>
      intro i hh hi r27 H locs hW ls hl
      refine lv_iload hx hb dX4_digest_27 (lv_at hl 0 rfl) ?_
      refine lv_aload_n hx hb dX4_digest_29 rfl (lv_at hl 1 rfl) ?_
      refine u_get C hW inlX4 (by decide) cC_0 rfl 0 (by decide) mw_15 rfl dX4_digest_30 ?_
      refine u_getN C hW inlX3 (by decide) cC_1 rfl 2 (by decide) (List.mem_of_getElem? (i := 3) rfl) rfl dX4_digest_33 ?_
      refine lv_icmp_ge (tgt := 101) hx hb dX4_digest_36 (by decide) (fun _ => ?_) (fun c9 => absurd (nI_le (by omega) (by omega)) c9)
      refine lv_lload_n hx hb dX4_digest_101 rfl (lv_at hl 3 rfl) ?_
      refine lv_aload_n hx hb dX4_digest_102 rfl (lv_at hl 1 rfl) ?_
      refine u_get C hW inlX4 (by decide) cC_0 rfl 4 (by decide) mw_28 rfl dX4_digest_103 ?_
      refine lv_i2l hx hb dX4_digest_106 rfl ?_
      refine u_callS (cf' := cC cyI cO ad n d (clV n d md 1) go ke ha wy ab be sr) (As := [.long hh, .long sr.toInt64]) (rest := []) (st1 := [.long (tkV hh sr.toInt64)]) C hW (c_X4_taken l D cyI cO cyZ ad fa n d (clV n d md 1) go ke ha wy ab be sr hh sr.toInt64 ) ms_yX4_taken mw_560 rfl ⟨rfl, rfl, Nat.le_of_ble_eq_true rfl, Nat.le_of_ble_eq_true rfl⟩ hl (Nat.le_of_ble_eq_true rfl) rfl rfl dX4_digest_107 (fun H locs hW => ?_)
      exact u_lret C hr hW dX4_digest_110 (by have h9 : hh = _ := r27; rw [h9]; rfl) rfl
    | succ k27 ih27 =>
      intro i hh hi r27 H locs hW ls hl
      refine lv_iload hx hb dX4_digest_27 (lv_at hl 0 rfl) ?_
      refine lv_aload_n hx hb dX4_digest_29 rfl (lv_at hl 1 rfl) ?_
      refine u_get C hW inlX4 (by decide) cC_0 rfl 0 (by decide) mw_15 rfl dX4_digest_30 ?_
      refine u_getN C hW inlX3 (by decide) cC_1 rfl 2 (by decide) (List.mem_of_getElem? (i := 3) rfl) rfl dX4_digest_33 ?_
      refine lv_icmp_ge (tgt := 101) hx hb dX4_digest_36 (by decide) (fun c9 => absurd c9 (nI_ge (by omega) (by omega))) (fun _ => ?_)
      refine lv_iload hx hb dX4_digest_39 (lv_at hl 0 rfl) ?_
      refine lv_iconst (v := 1) hx hb dX4_digest_41 (by decide) ?_
      refine lv_iadd hx hb dX4_digest_42 ?_
      refine u_top (show (nI i) + 1 = nI (i + 1) from nI_add i 1) ?_
      refine lv_istore (lv' := [(5, .int (nI (i + 1))), (4, .int (nI i)), (0, .ref (ad 0)), (1, .ref (ad 9)), (2, .long hh)]) hx hb dX4_digest_43 hl (by decide) rfl (fun ls hl => ?_)
      have L45 : ∀ (k45 : Nat) (j : Nat) (hh : Int64), j + k45 = n → lp (dgO n d (clV n d md 1)) (i + 1) k27 (lp (dgI d (clV n d md 1) i) j k45 hh) = dgH n d (clV n d md 1) → ∀ (H : Heap) (locs : List Loc), Wd D 29 ad (cC cyI cO ad n d (clV n d md 1) go ke ha wy ab be sr) A s.heap H locs → ∀ ls : Array Slot, lv_has ls 6 [(5, .int (nI j)), (0, .ref (ad 0)), (1, .ref (ad 9)), (2, .long hh), (4, .int (nI i))] → W p l e ({ frames := 4, cells := 0, slots := 0, locals := 94 } : Room) s m args below meth c H locs 0 0 (MQ below (uQ D 29 ad (cC cyI cO ad n d (clV n d md 1) go ke ha wy ab be sr) (some (.long (dgR n d (clV n d md 1) sr))) A) args s 0 0 A) (F0 m 45 ls []) := by
        intro k45
        induction k45 with
        | zero =>
          intro j hh hj r45 H locs hW ls hl
          refine lv_iload hx hb dX4_digest_45 (lv_at hl 0 rfl) ?_
          refine lv_aload_n hx hb dX4_digest_47 rfl (lv_at hl 1 rfl) ?_
          refine u_get C hW inlX4 (by decide) cC_0 rfl 0 (by decide) mw_15 rfl dX4_digest_48 ?_
          refine u_getN C hW inlX3 (by decide) cC_1 rfl 2 (by decide) (List.mem_of_getElem? (i := 3) rfl) rfl dX4_digest_51 ?_
          refine lv_icmp_ge (tgt := 95) hx hb dX4_digest_54 (by decide) (fun _ => ?_) (fun c9 => absurd (nI_le (by omega) (by omega)) c9)
          refine lv_iinc (v := nI (i + 1)) (lv' := [(4, .int (nI (i + 1))), (5, .int (nI j)), (0, .ref (ad 0)), (1, .ref (ad 9)), (2, .long hh)]) hx hb dX4_digest_95 hl (k := 4) rfl (nI_1 _) (by decide) rfl (fun ls hl => ?_)
          refine lv_goto (tgt := 27) hx hb dX4_digest_98 (by decide) ?_
          exact ih27  (i + 1) hh (by omega) r45 H locs hW ls (lv_sub hl [0, 2, 3, 4] rfl)
        | succ k45 ih45 =>
          intro j hh hj r45 H locs hW ls hl
          refine lv_iload hx hb dX4_digest_45 (lv_at hl 0 rfl) ?_
          refine lv_aload_n hx hb dX4_digest_47 rfl (lv_at hl 1 rfl) ?_
          refine u_get C hW inlX4 (by decide) cC_0 rfl 0 (by decide) mw_15 rfl dX4_digest_48 ?_
          refine u_getN C hW inlX3 (by decide) cC_1 rfl 2 (by decide) (List.mem_of_getElem? (i := 3) rfl) rfl dX4_digest_51 ?_
          refine lv_icmp_ge (tgt := 95) hx hb dX4_digest_54 (by decide) (fun c9 => absurd c9 (nI_ge (by omega) (by omega))) (fun _ => ?_)
          refine lv_lload_n hx hb dX4_digest_57 rfl (lv_at hl 3 rfl) ?_
          refine lv_aload_n hx hb dX4_digest_58 rfl (lv_at hl 1 rfl) ?_
          refine u_get C hW inlX4 (by decide) cC_0 rfl 0 (by decide) mw_15 rfl dX4_digest_59 ?_
          refine u_getN C hW inlX3 (by decide) cC_1 rfl 0 (by decide) (List.mem_of_getElem? (i := 4) rfl) rfl dX4_digest_62 ?_
          refine lv_iload hx hb dX4_digest_65 (lv_at hl 4 rfl) ?_
          refine u_aald C hW (by decide) cC_2 1 rfl i rfl (by omega) (by decide) (cC_outer (by omega)) dX4_digest_67 ?_
          refine lv_iload hx hb dX4_digest_68 (lv_at hl 0 rfl) ?_
          refine u_iald C hW (by omega) (cC_d (by omega)) 0 rfl j rfl (by omega) (by decide) dX4_digest_70 ?_
          refine lv_i2l hx hb dX4_digest_71 rfl ?_
          refine u_callS (cf' := cC cyI cO ad n d (clV n d md 1) go ke ha wy ab be sr) (As := [.long hh, .long ((d i j).toInt64)]) (rest := []) (st1 := [.long (tkV hh ((d i j).toInt64))]) C hW (c_X4_taken l D cyI cO cyZ ad fa n d (clV n d md 1) go ke ha wy ab be sr hh ((d i j).toInt64) ) ms_yX4_taken mw_560 rfl ⟨rfl, rfl, Nat.le_of_ble_eq_true rfl, Nat.le_of_ble_eq_true rfl⟩ hl (Nat.le_of_ble_eq_true rfl) rfl rfl dX4_digest_72 (fun H locs hW => ?_)
          refine lv_lstore_n (lv' := [(2, .long (tkV hh ((d i j).toInt64))), (5, .int (nI j)), (0, .ref (ad 0)), (1, .ref (ad 9)), (4, .int (nI i))]) hx hb dX4_digest_75 rfl hl (by decide) rfl (fun ls hl => ?_)
          refine lv_lload_n hx hb dX4_digest_76 rfl (lv_at hl 0 rfl) ?_
          refine lv_aload_n hx hb dX4_digest_77 rfl (lv_at hl 3 rfl) ?_
          refine lv_iload hx hb dX4_digest_78 (lv_at hl 4 rfl) ?_
          refine u_aald C hW (by decide) cC_9 1 rfl i rfl (by omega) (by decide) (cC_outer (by omega)) dX4_digest_80 ?_
          refine lv_iload hx hb dX4_digest_81 (lv_at hl 1 rfl) ?_
          refine u_iald C hW (by omega) (cC_m (by omega)) 0 rfl j rfl (by omega) (by decide) dX4_digest_83 ?_
          refine lv_i2l hx hb dX4_digest_84 rfl ?_
          refine u_callS (cf' := cC cyI cO ad n d (clV n d md 1) go ke ha wy ab be sr) (As := [.long (tkV hh ((d i j).toInt64)), .long (((clV n d md 1) i j).toInt64)]) (rest := []) (st1 := [.long (tkV (tkV hh ((d i j).toInt64)) (((clV n d md 1) i j).toInt64))]) C hW (c_X4_taken l D cyI cO cyZ ad fa n d (clV n d md 1) go ke ha wy ab be sr (tkV hh ((d i j).toInt64)) (((clV n d md 1) i j).toInt64) ) ms_yX4_taken mw_560 rfl ⟨rfl, rfl, Nat.le_of_ble_eq_true rfl, Nat.le_of_ble_eq_true rfl⟩ hl (Nat.le_of_ble_eq_true rfl) rfl rfl dX4_digest_85 (fun H locs hW => ?_)
          refine lv_lstore_n (lv' := [(2, .long (tkV (tkV hh ((d i j).toInt64)) (((clV n d md 1) i j).toInt64))), (5, .int (nI j)), (0, .ref (ad 0)), (1, .ref (ad 9)), (4, .int (nI i))]) hx hb dX4_digest_88 rfl hl (by decide) rfl (fun ls hl => ?_)
          refine lv_iinc (v := nI (j + 1)) (lv' := [(5, .int (nI (j + 1))), (2, .long (tkV (tkV hh ((d i j).toInt64)) (((clV n d md 1) i j).toInt64))), (0, .ref (ad 0)), (1, .ref (ad 9)), (4, .int (nI i))]) hx hb dX4_digest_89 hl (k := 1) rfl (nI_1 _) (by decide) rfl (fun ls hl => ?_)
          refine lv_goto (tgt := 45) hx hb dX4_digest_92 (by decide) ?_
          exact ih45  (j + 1) (tkV (tkV hh ((d i j).toInt64)) (((clV n d md 1) i j).toInt64)) (by omega) r45 H locs hW ls (lv_sub hl [0, 2, 3, 1, 4] rfl)
      exact L45 (n - (i + 1)) (i + 1) hh (by omega) r27 H locs hW ls (lv_sub hl [0, 2, 3, 4, 1] rfl)
  exact L27 n 0 (tkV 197 ((nI n).toInt64)) (by omega) rfl H locs hW ls (lv_sub hl [0, 3, 2, 1] rfl)
