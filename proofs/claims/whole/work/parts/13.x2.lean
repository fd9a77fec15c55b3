set_option maxHeartbeats 4000000 in
set_option maxRecDepth 100000 in
theorem c_X2_allPoints (l : Launch) (D : va_G) (cyI cO cyZ : ClassId) (ad : Nat → Nat) (fa : Nat) (n : Nat) (d md : Nat → Nat → Int32) (go ke ha : Nat → Int32) (wy : Nat → Nat → Int32) (ab be sr : Int32)  (hn : n ≤ 6) : Ct l yX2_allPoints (Cond.code yX2_allPoints cX2_allPoints 1 (some .int) :: wsL_law) ({ frames := 0, cells := 0, slots := 0, locals := 0 } : Room) D (ty3 cyI cO cyZ) 29 ad fa [.ref (ad 27)] (cC cyI cO ad n d md go ke ha wy ab be sr) (cC cyI cO ad n d md go ke ha wy ab be sr) (some (.int (nI (2 ^ n - 1)))) := by
  refine Ct.of (by decide) (Nat.le_of_ble_eq_true rfl) ?_
  intro p e s m args below meth c A C hr H locs hW ls hl
  have C : Cx p s m args meth c cX2_allPoints 1 RX2 D (ty3 cyI cO cyZ) fa A := C
  have hx := C.1
  have hb := C.2.1
  have hl : lv_has ls 1 [(0, .ref (ad 27))] := hl
  refine lv_iconst (v := 1) hx hb dX2_allPoints_0 (by decide) ?_
  refine lv_aload_n hx hb dX2_allPoints_1 rfl (lv_at hl 0 rfl) ?_
  refine u_get C hW inlX2 (by decide) cC_27 rfl 0 (by decide) mw_52 rfl dX2_allPoints_2 ?_
  refine u_getN C hW inlX3 (by decide) cC_1 rfl 2 (by decide) (List.mem_of_getElem? (i := 10) rfl) rfl dX2_allPoints_5 ?_
  refine lv_ishl hx hb dX2_allPoints_8 ?_
  refine u_top (show 1 <<< ((nI n) &&& 31) = nI (2 ^ n) from shl1 hn) ?_
  refine lv_iconst (v := 1) hx hb dX2_allPoints_9 (by decide) ?_
  refine lv_isub hx hb dX2_allPoints_10 ?_
  refine u_top (show (nI (2 ^ n)) - 1 = nI (2 ^ n - 1) from pk_sub Nat.one_le_two_pow) ?_
  exact u_iret C hr hW dX2_allPoints_11 rfl rfl
set_option maxHeartbeats 4000000 in
set_option maxRecDepth 100000 in
theorem c_X2_isIn (l : Launch) (D : va_G) (cyI cO cyZ : ClassId) (ad : Nat → Nat) (fa : Nat) (n : Nat) (d md : Nat → Nat → Int32) (go ke ha : Nat → Int32) (wy : Nat → Nat → Int32) (ab be sr : Int32) (x i : Int32)  : Ct l yX2_isIn (Cond.code yX2_isIn cX2_isIn 2 (some .boolean) :: wsL_law) ({ frames := 0, cells := 0, slots := 0, locals := 0 } : Room) D (ty3 cyI cO cyZ) 29 ad fa [.int x, .int i] (cC cyI cO ad n d md go ke ha wy ab be sr) (cC cyI cO ad n d md go ke ha wy ab be sr) (some (.int (iiV x i))) := by
  refine Ct.of (by decide) (Nat.le_of_ble_eq_true rfl) ?_
  intro p e s m args below meth c A C hr H locs hW ls hl
  have C : Cx p s m args meth c cX2_isIn 2 RX2 D (ty3 cyI cO cyZ) fa A := C
  have hx := C.1
  have hb := C.2.1
  have hl : lv_has ls 2 [(0, .int x), (1, .int i)] := hl
  refine lv_iload_n hx hb dX2_isIn_0 rfl (lv_at hl 0 rfl) ?_
  refine lv_iload_n hx hb dX2_isIn_1 rfl (lv_at hl 1 rfl) ?_
  refine lv_ishr hx hb dX2_isIn_2 ?_
  refine lv_iconst (v := 1) hx hb dX2_isIn_3 (by decide) ?_
  refine lv_iand hx hb dX2_isIn_4 ?_
  refine lv_iconst (v := 1) hx hb dX2_isIn_5 (by decide) ?_
  refine lv_icmp_ne (tgt := 13) hx hb dX2_isIn_6 (by decide) (fun c6_1 => ?_) (fun c6_1 => ?_)
  · skip
    refine lv_iconst (v := 0) hx hb dX2_isIn_13 (by decide) ?_
    exact u_zret C hr hW dX2_isIn_14 (by first | exact Or.inl rfl | exact Or.inr rfl) (by simp only [iiV, if_neg c6_1]) rfl
  · skip
    refine lv_iconst (v := 1) hx hb dX2_isIn_9 (by decide) ?_
    refine lv_goto (tgt := 14) hx hb dX2_isIn_10 (by decide) ?_
    exact u_zret C hr hW dX2_isIn_14 (by first | exact Or.inl rfl | exact Or.inr rfl) (by simp only [iiV, if_pos c6_1]) rfl
set_option maxHeartbeats 4000000 in
set_option maxRecDepth 100000 in
theorem c_X2_isPart (l : Launch) (D : va_G) (cyI cO cyZ : ClassId) (ad : Nat → Nat) (fa : Nat) (n : Nat) (d md : Nat → Nat → Int32) (go ke ha : Nat → Int32) (wy : Nat → Nat → Int32) (ab be sr : Int32) (x : Int32) (hn : n ≤ 6) : Ct l yX2_isPart (Cond.code yX2_isPart cX2_isPart 2 (some .boolean) :: wsL_law) ({ frames := 1, cells := 0, slots := 0, locals := 21 } : Room) D (ty3 cyI cO cyZ) 29 ad fa [.ref (ad 27), .int x] (cC cyI cO ad n d md go ke ha wy ab be sr) (cC cyI cO ad n d md go ke ha wy ab be sr) (some (.int (ipV n x))) := by
  refine Ct.of (by decide) (Nat.le_of_ble_eq_true rfl) ?_
  intro p e s m args below meth c A C hr H locs hW ls hl
  have C : Cx p s m args meth c cX2_isPart 2 RX2 D (ty3 cyI cO cyZ) fa A := C
  have hx := C.1
  have hb := C.2.1
  have hl : lv_has ls 2 [(0, .ref (ad 27)), (1, .int x)] := hl
  refine lv_iload_n hx hb dX2_isPart_0 rfl (lv_at hl 1 rfl) ?_
  refine lv_if_le (tgt := 24) hx hb dX2_isPart_1 (by decide) (fun c1_1 => ?_) (fun c1_1 => ?_)
  · skip
    refine lv_iconst (v := 0) hx hb dX2_isPart_24 (by decide) ?_
    exact u_zret C hr hW dX2_isPart_25 (by first | exact Or.inl rfl | exact Or.inr rfl) (by simp only [ipV, if_pos c1_1]) rfl
  · skip
    refine lv_iload_n hx hb dX2_isPart_4 rfl (lv_at hl 1 rfl) ?_
    refine lv_aload_n hx hb dX2_isPart_5 rfl (lv_at hl 0 rfl) ?_
    refine u_callV (cf' := cC cyI cO ad n d md go ke ha wy ab be sr) (As := []) (rest := [.int x]) (st1 := [.int (nI (2 ^ n - 1)), .int x]) C hW (c_X2_allPoints l D cyI cO cyZ ad fa n d md go ke ha wy ab be sr  (by omega)) mv_yX2_allPoints mw_433 rfl ⟨rfl, rfl, Nat.le_of_ble_eq_true rfl, Nat.le_of_ble_eq_true rfl⟩ (by decide) cC_27 rfl rfl hl (Nat.le_of_ble_eq_true rfl) rfl rfl dX2_isPart_6 (fun H locs hW => ?_)
    refine lv_icmp_ge (tgt := 24) hx hb dX2_isPart_9 (by decide) (fun c9_2 => ?_) (fun c9_2 => ?_)
    · skip
      refine lv_iconst (v := 0) hx hb dX2_isPart_24 (by decide) ?_
      exact u_zret C hr hW dX2_isPart_25 (by first | exact Or.inl rfl | exact Or.inr rfl) (by simp only [ipV, if_neg c1_1, if_pos c9_2]) rfl
    · skip
      refine lv_iload_n hx hb dX2_isPart_12 rfl (lv_at hl 1 rfl) ?_
      refine lv_iconst (v := 0) hx hb dX2_isPart_13 (by decide) ?_
      refine u_callS (cf' := cC cyI cO ad n d md go ke ha wy ab be sr) (As := [.int x, .int 0]) (rest := []) (st1 := [.int (iiV x 0)]) C hW (c_X2_isIn l D cyI cO cyZ ad fa n d md go ke ha wy ab be sr x 0 ) ms_yX2_isIn mw_437 rfl ⟨rfl, rfl, Nat.le_of_ble_eq_true rfl, Nat.le_of_ble_eq_true rfl⟩ hl (Nat.le_of_ble_eq_true rfl) rfl rfl dX2_isPart_14 (fun H locs hW => ?_)
      refine lv_if_eq (tgt := 24) hx hb dX2_isPart_17 (by decide) (fun c17_3 => ?_) (fun c17_3 => ?_)
      · skip
        refine lv_iconst (v := 0) hx hb dX2_isPart_24 (by decide) ?_
        exact u_zret C hr hW dX2_isPart_25 (by first | exact Or.inl rfl | exact Or.inr rfl) (by simp only [ipV, if_neg c1_1, if_neg c9_2, if_pos c17_3]) rfl
      · skip
        refine lv_iconst (v := 1) hx hb dX2_isPart_20 (by decide) ?_
        refine lv_goto (tgt := 25) hx hb dX2_isPart_21 (by decide) ?_
        exact u_zret C hr hW dX2_isPart_25 (by first | exact Or.inl rfl | exact Or.inr rfl) (by simp only [ipV, if_neg c1_1, if_neg c9_2, if_neg c17_3]) rfl
set_option maxHeartbeats 4000000 in
set_option maxRecDepth 100000 in
theorem c_X2_across (l : Launch) (D : va_G) (cyI cO cyZ : ClassId) (ad : Nat → Nat) (fa : Nat) (n : Nat) (d md : Nat → Nat → Int32) (go ke ha : Nat → Int32) (wy : Nat → Nat → Int32) (ab be sr : Int32) (i j k q : Nat) (hi : i < 6) (hj : j < 6) (hk : k < 6) (hq : q < 6) : Ct l yX2_across (Cond.code yX2_across cX2_across 9 (some .int) :: wsL_law) ({ frames := 1, cells := 0, slots := 0, locals := 26 } : Room) D (ty3 cyI cO cyZ) 29 ad fa [.ref (ad 27), .int (nI i), .int (nI j), .int (nI k), .int (nI q)] (cC cyI cO ad n d md go ke ha wy ab be sr) (cC cyI cO ad n d md go ke ha wy ab be sr) (some (.int (acV d i j k q))) := by
  refine Ct.of (by decide) (Nat.le_of_ble_eq_true rfl) ?_
  intro p e s m args below meth c A C hr H locs hW ls hl
  have C : Cx p s m args meth c cX2_across 9 RX2 D (ty3 cyI cO cyZ) fa A := C
  have hx := C.1
  have hb := C.2.1
  have hl : lv_has ls 9 [(0, .ref (ad 27)), (1, .int (nI i)), (2, .int (nI j)), (3, .int (nI k)), (4, .int (nI q))] := hl
  refine lv_aload_n hx hb dX2_across_0 rfl (lv_at hl 0 rfl) ?_
  refine u_get C hW inlX2 (by decide) cC_27 rfl 0 (by decide) mw_52 rfl dX2_across_1 ?_
  refine u_getN C hW inlX3 (by decide) cC_1 rfl 0 (by decide) (List.mem_of_getElem? (i := 11) rfl) rfl dX2_across_4 ?_
  refine lv_astore (lv' := [(5, .ref (ad 2)), (0, .ref (ad 27)), (1, .int (nI i)), (2, .int (nI j)), (3, .int (nI k)), (4, .int (nI q))]) hx hb dX2_across_7 hl (by decide) rfl (fun ls hl => ?_)
  refine lv_aload hx hb dX2_across_9 (lv_at hl 0 rfl) ?_
  refine lv_iload_n hx hb dX2_across_11 rfl (lv_at hl 2 rfl) ?_
  refine u_aald C hW (by decide) cC_2 1 rfl i rfl (by omega) (by decide) (cC_outer (by omega)) dX2_across_12 ?_
  refine lv_iload_n hx hb dX2_across_13 rfl (lv_at hl 3 rfl) ?_
  refine u_iald C hW (by omega) (cC_d (by omega)) 0 rfl j rfl (by omega) (by decide) dX2_across_14 ?_
  refine lv_aload hx hb dX2_across_15 (lv_at hl 0 rfl) ?_
  refine lv_iload_n hx hb dX2_across_17 rfl (lv_at hl 4 rfl) ?_
  refine u_aald C hW (by decide) cC_2 1 rfl k rfl (by omega) (by decide) (cC_outer (by omega)) dX2_across_18 ?_
  refine lv_iload hx hb dX2_across_19 (lv_at hl 5 rfl) ?_
  refine u_iald C hW (by omega) (cC_d (by omega)) 0 rfl q rfl (by omega) (by decide) dX2_across_21 ?_
  refine lv_iadd hx hb dX2_across_22 ?_
  refine lv_istore (lv' := [(6, .int ((d i j) + (d k q))), (5, .ref (ad 2)), (0, .ref (ad 27)), (1, .int (nI i)), (2, .int (nI j)), (3, .int (nI k)), (4, .int (nI q))]) hx hb dX2_across_23 hl (by decide) rfl (fun ls hl => ?_)
  refine lv_aload hx hb dX2_across_25 (lv_at hl 1 rfl) ?_
  refine lv_iload_n hx hb dX2_across_27 rfl (lv_at hl 3 rfl) ?_
  refine u_aald C hW (by decide) cC_2 1 rfl i rfl (by omega) (by decide) (cC_outer (by omega)) dX2_across_28 ?_
  refine lv_iload_n hx hb dX2_across_29 rfl (lv_at hl 5 rfl) ?_
  refine u_iald C hW (by omega) (cC_d (by omega)) 0 rfl k rfl (by omega) (by decide) dX2_across_30 ?_
  refine lv_aload hx hb dX2_across_31 (lv_at hl 1 rfl) ?_
  refine lv_iload_n hx hb dX2_across_33 rfl (lv_at hl 4 rfl) ?_
  refine u_aald C hW (by decide) cC_2 1 rfl j rfl (by omega) (by decide) (cC_outer (by omega)) dX2_across_34 ?_
  refine lv_iload hx hb dX2_across_35 (lv_at hl 6 rfl) ?_
  refine u_iald C hW (by omega) (cC_d (by omega)) 0 rfl q rfl (by omega) (by decide) dX2_across_37 ?_
  refine lv_iadd hx hb dX2_across_38 ?_
  refine lv_istore (lv' := [(7, .int ((d i k) + (d j q))), (6, .int ((d i j) + (d k q))), (5, .ref (ad 2)), (0, .ref (ad 27)), (1, .int (nI i)), (2, .int (nI j)), (3, .int (nI k)), (4, .int (nI q))]) hx hb dX2_across_39 hl (by decide) rfl (fun ls hl => ?_)
  refine lv_aload hx hb dX2_across_41 (lv_at hl 2 rfl) ?_
  refine lv_iload_n hx hb dX2_across_43 rfl (lv_at hl 4 rfl) ?_
  refine u_aald C hW (by decide) cC_2 1 rfl i rfl (by omega) (by decide) (cC_outer (by omega)) dX2_across_44 ?_
  refine lv_iload hx hb dX2_across_45 (lv_at hl 7 rfl) ?_
  refine u_iald C hW (by omega) (cC_d (by omega)) 0 rfl q rfl (by omega) (by decide) dX2_across_47 ?_
  refine lv_aload hx hb dX2_across_48 (lv_at hl 2 rfl) ?_
  refine lv_iload_n hx hb dX2_across_50 rfl (lv_at hl 5 rfl) ?_
  refine u_aald C hW (by decide) cC_2 1 rfl j rfl (by omega) (by decide) (cC_outer (by omega)) dX2_across_51 ?_
  refine lv_iload_n hx hb dX2_across_52 rfl (lv_at hl 6 rfl) ?_
  refine u_iald C hW (by omega) (cC_d (by omega)) 0 rfl k rfl (by omega) (by decide) dX2_across_53 ?_
  refine lv_iadd hx hb dX2_across_54 ?_
  refine lv_istore (lv' := [(8, .int ((d i q) + (d j k))), (7, .int ((d i k) + (d j q))), (6, .int ((d i j) + (d k q))), (5, .ref (ad 2)), (0, .ref (ad 27)), (1, .int (nI i)), (2, .int (nI j)), (3, .int (nI k)), (4, .int (nI q))]) hx hb dX2_across_55 hl (by decide) rfl (fun ls hl => ?_)
  refine lv_iload hx hb dX2_across_57 (lv_at hl 2 rfl) ?_
  refine lv_iload hx hb dX2_across_59 (lv_at hl 1 rfl) ?_
  refine lv_iload hx hb dX2_across_61 (lv_at hl 0 rfl) ?_
  refine u_max C mw_453 hl (by decide) (Nat.le_of_ble_eq_true rfl) dX2_across_63 ?_
  refine u_top (y := mx ((d i k) + (d j q)) ((d i q) + (d j k))) rfl ?_
  refine u_max C mw_453 hl (by decide) (Nat.le_of_ble_eq_true rfl) dX2_across_66 ?_
  refine u_top (y := mx ((d i j) + (d k q)) (mx ((d i k) + (d j q)) ((d i q) + (d j k)))) rfl ?_
  refine lv_iload hx hb dX2_across_69 (lv_at hl 2 rfl) ?_
  refine lv_isub hx hb dX2_across_71 ?_
  exact u_iret C hr hW dX2_across_72 rfl rfl
set_option maxHeartbeats 4000000 in
set_option maxRecDepth 100000 in
theorem c_X2_leastAcross (l : Launch) (D : va_G) (cyI cO cyZ : ClassId) (ad : Nat → Nat) (fa : Nat) (n : Nat) (d md : Nat → Nat → Int32) (go ke ha : Nat → Int32) (wy : Nat → Nat → Int32) (ab be sr : Int32) (x : Int32) (i j : Nat) (hn : n ≤ 6) (hi : i < 6) (hj : j < 6) : Ct l yX2_leastAcross (Cond.code yX2_leastAcross cX2_leastAcross 7 (some .int) :: wsL_law) ({ frames := 2, cells := 0, slots := 0, locals := 54 } : Room) D (ty3 cyI cO cyZ) 29 ad fa [.ref (ad 27), .int x, .int (nI i), .int (nI j)] (cC cyI cO ad n d md go ke ha wy ab be sr) (cC cyI cO ad n d md go ke ha wy ab be sr) (some (.int (laV n d x i j))) := by
  refine Ct.of (by decide) (Nat.le_of_ble_eq_true rfl) ?_
  intro p e s m args below meth c A C hr H locs hW ls hl
  have C : Cx p s m args meth c cX2_leastAcross 7 RX2 D (ty3 cyI cO cyZ) fa A := C
  have hx := C.1
  have hb := C.2.1
  have hl : lv_has ls 7 [(0, .ref (ad 27)), (1, .int x), (2, .int (nI i)), (3, .int (nI j))] := hl
  refine lv_sipush (v := 2000) hx hb dX2_leastAcross_0 (by decide) ?_
  refine lv_istore (lv' := [(4, .int 2000), (0, .ref (ad 27)), (1, .int x), (2, .int (nI i)), (3, .int (nI j))]) hx hb dX2_leastAcross_3 hl (by decide) rfl (fun ls hl => ?_)
  refine lv_iconst (v := 0) hx hb dX2_leastAcross_5 (by decide) ?_
  refine lv_istore (lv' := [(5, .int 0), (4, .int 2000), (0, .ref (ad 27)), (1, .int x), (2, .int (nI i)), (3, .int (nI j))]) hx hb dX2_leastAcross_6 hl (by decide) rfl (fun ls hl => ?_)
  have L8 : ∀ (k8 : Nat) (k : Nat) (a : Int32), k + k8 = n → lp (laO n d x i j) k k8 a = laV n d x i j → ∀ (H : Heap) (locs : List Loc), Wd D 29 ad (cC cyI cO ad n d md go ke ha wy ab be sr) A s.heap H locs → ∀ ls : Array Slot, lv_has ls 7 [(5, .int (nI k)), (0, .ref (ad 27)), (1, .int x), (2, .int (nI i)), (3, .int (nI j)), (4, .int a)] → W p l e ({ frames := 2, cells := 0, slots := 0, locals := 54 } : Room) s m args below meth c H locs 0 0 (MQ below (uQ D 29 ad (cC cyI cO ad n d md go ke ha wy ab be sr) (some (.int (laV n d x i j))) A) args s 0 0 A) (F0 m 8 ls []) := by
    intro k8
    induction k8 with
    | zero =>
      intro k a hk r8 H locs hW ls hl
      refine lv_iload hx hb dX2_leastAcross_8 (lv_at hl 0 rfl) ?_
      refine lv_aload_n hx hb dX2_leastAcross_10 rfl (lv_at hl 1 rfl) ?_
      refine u_get C hW inlX2 (by decide) cC_27 rfl 0 (by decide) mw_52 rfl dX2_leastAcross_11 ?_
      refine u_getN C hW inlX3 (by decide) cC_1 rfl 2 (by decide) (List.mem_of_getElem? (i := 10) rfl) rfl dX2_leastAcross_14 ?_
      refine lv_icmp_ge (tgt := 83) hx hb dX2_leastAcross_17 (by decide) (fun _ => ?_) (fun c9 => absurd (nI_le (by omega) (by omega)) c9)
      refine lv_iload hx hb dX2_leastAcross_83 (lv_at hl 5 rfl) ?_
      exact u_iret C hr hW dX2_leastAcross_85 r8 rfl
    | succ k8 ih8 =>
      intro k a hk r8 H locs hW ls hl
      refine lv_iload hx hb dX2_leastAcross_8 (lv_at hl 0 rfl) ?_
      refine lv_aload_n hx hb dX2_leastAcross_10 rfl (lv_at hl 1 rfl) ?_
      refine u_get C hW inlX2 (by decide) cC_27 rfl 0 (by decide) mw_52 rfl dX2_leastAcross_11 ?_
      refine u_getN C hW inlX3 (by decide) cC_1 rfl 2 (by decide) (List.mem_of_getElem? (i := 10) rfl) rfl dX2_leastAcross_14 ?_
      refine lv_icmp_ge (tgt := 83) hx hb dX2_leastAcross_17 (by decide) (fun c9 => absurd c9 (nI_ge (by omega) (by omega))) (fun _ => ?_)
      refine lv_iload hx hb dX2_leastAcross_20 (lv_at hl 0 rfl) ?_
      refine lv_istore (lv' := [(6, .int (nI k)), (5, .int (nI k)), (0, .ref (ad 27)), (1, .int x), (2, .int (nI i)), (3, .int (nI j)), (4, .int a)]) hx hb dX2_leastAcross_22 hl (by decide) rfl (fun ls hl => ?_)
      have L24 : ∀ (k24 : Nat) (q : Nat) (a : Int32), q + k24 = n → lp (laO n d x i j) (k + 1) k8 (lp (laI d x i j k) q k24 a) = laV n d x i j → ∀ (H : Heap) (locs : List Loc), Wd D 29 ad (cC cyI cO ad n d md go ke ha wy ab be sr) A s.heap H locs → ∀ ls : Array Slot, lv_has ls 7 [(6, .int (nI q)), (0, .ref (ad 27)), (1, .int x), (2, .int (nI i)), (3, .int (nI j)), (4, .int a), (5, .int (nI k))] → W p l e ({ frames := 2, cells := 0, slots := 0, locals := 54 } : Room) s m args below meth c H locs 0 0 (MQ below (uQ D 29 ad (cC cyI cO ad n d md go ke ha wy ab be sr) (some (.int (laV n d x i j))) A) args s 0 0 A) (F0 m 24 ls []) := by
        intro k24
        induction k24 with
        | zero =>
          intro q a hq r24 H locs hW ls hl
          refine lv_iload hx hb dX2_leastAcross_24 (lv_at hl 0 rfl) ?_
          refine lv_aload_n hx hb dX2_leastAcross_26 rfl (lv_at hl 1 rfl) ?_
          refine u_get C hW inlX2 (by decide) cC_27 rfl 0 (by decide) mw_52 rfl dX2_leastAcross_27 ?_
          refine u_getN C hW inlX3 (by decide) cC_1 rfl 2 (by decide) (List.mem_of_getElem? (i := 10) rfl) rfl dX2_leastAcross_30 ?_
          refine lv_icmp_ge (tgt := 77) hx hb dX2_leastAcross_33 (by decide) (fun _ => ?_) (fun c9 => absurd (nI_le (by omega) (by omega)) c9)
          refine lv_iinc (v := nI (k + 1)) (lv' := [(5, .int (nI (k + 1))), (6, .int (nI q)), (0, .ref (ad 27)), (1, .int x), (2, .int (nI i)), (3, .int (nI j)), (4, .int a)]) hx hb dX2_leastAcross_77 hl (k := 6) rfl (nI_1 _) (by decide) rfl (fun ls hl => ?_)
          refine lv_goto (tgt := 8) hx hb dX2_leastAcross_80 (by decide) ?_
          exact ih8  (k + 1) a (by omega) r24 H locs hW ls (lv_sub hl [0, 2, 3, 4, 5, 6] rfl)
        | succ k24 ih24 =>
          intro q a hq r24 H locs hW ls hl
          refine lv_iload hx hb dX2_leastAcross_24 (lv_at hl 0 rfl) ?_
          refine lv_aload_n hx hb dX2_leastAcross_26 rfl (lv_at hl 1 rfl) ?_
          refine u_get C hW inlX2 (by decide) cC_27 rfl 0 (by decide) mw_52 rfl dX2_leastAcross_27 ?_
          refine u_getN C hW inlX3 (by decide) cC_1 rfl 2 (by decide) (List.mem_of_getElem? (i := 10) rfl) rfl dX2_leastAcross_30 ?_
          refine lv_icmp_ge (tgt := 77) hx hb dX2_leastAcross_33 (by decide) (fun c9 => absurd c9 (nI_ge (by omega) (by omega))) (fun _ => ?_)
          refine lv_iload_n hx hb dX2_leastAcross_36 rfl (lv_at hl 2 rfl) ?_
          refine lv_iload hx hb dX2_leastAcross_37 (lv_at hl 6 rfl) ?_
          refine u_callS (cf' := cC cyI cO ad n d md go ke ha wy ab be sr) (As := [.int x, .int (nI k)]) (rest := []) (st1 := [.int (iiV x (nI k))]) C hW (c_X2_isIn l D cyI cO cyZ ad fa n d md go ke ha wy ab be sr x (nI k) ) ms_yX2_isIn mw_437 rfl ⟨rfl, rfl, Nat.le_of_ble_eq_true rfl, Nat.le_of_ble_eq_true rfl⟩ hl (Nat.le_of_ble_eq_true rfl) rfl rfl dX2_leastAcross_39 (fun H locs hW => ?_)
          refine lv_if_ne (tgt := 71) hx hb dX2_leastAcross_42 (by decide) (fun c42_1 => ?_) (fun c42_1 => ?_)
          · skip
            refine lv_iinc (v := nI (q + 1)) (lv' := [(6, .int (nI (q + 1))), (0, .ref (ad 27)), (1, .int x), (2, .int (nI i)), (3, .int (nI j)), (4, .int a), (5, .int (nI k))]) hx hb dX2_leastAcross_71 hl (k := 0) rfl (nI_1 _) (by decide) rfl (fun ls hl => ?_)
            refine lv_goto (tgt := 24) hx hb dX2_leastAcross_74 (by decide) ?_
            exact ih24  (q + 1) a (by omega) (by have h9 := r24; simp only [lp_s, lp_0, laI, if_neg c42_1] at h9; exact h9) H locs hW ls (lv_sub hl [0, 1, 2, 3, 4, 5, 6] rfl)
          · skip
            refine lv_iload_n hx hb dX2_leastAcross_45 rfl (lv_at hl 2 rfl) ?_
            refine lv_iload hx hb dX2_leastAcross_46 (lv_at hl 0 rfl) ?_
            refine u_callS (cf' := cC cyI cO ad n d md go ke ha wy ab be sr) (As := [.int x, .int (nI q)]) (rest := []) (st1 := [.int (iiV x (nI q))]) C hW (c_X2_isIn l D cyI cO cyZ ad fa n d md go ke ha wy ab be sr x (nI q) ) ms_yX2_isIn mw_437 rfl ⟨rfl, rfl, Nat.le_of_ble_eq_true rfl, Nat.le_of_ble_eq_true rfl⟩ hl (Nat.le_of_ble_eq_true rfl) rfl rfl dX2_leastAcross_48 (fun H locs hW => ?_)
            refine lv_if_ne (tgt := 71) hx hb dX2_leastAcross_51 (by decide) (fun c51_2 => ?_) (fun c51_2 => ?_)
            · skip
              refine lv_iinc (v := nI (q + 1)) (lv' := [(6, .int (nI (q + 1))), (0, .ref (ad 27)), (1, .int x), (2, .int (nI i)), (3, .int (nI j)), (4, .int a), (5, .int (nI k))]) hx hb dX2_leastAcross_71 hl (k := 0) rfl (nI_1 _) (by decide) rfl (fun ls hl => ?_)
              refine lv_goto (tgt := 24) hx hb dX2_leastAcross_74 (by decide) ?_
              exact ih24  (q + 1) a (by omega) (by have h9 := r24; simp only [lp_s, lp_0, laI, if_pos c42_1, if_neg c51_2] at h9; exact h9) H locs hW ls (lv_sub hl [0, 1, 2, 3, 4, 5, 6] rfl)
            · skip
              refine lv_iload hx hb dX2_leastAcross_54 (lv_at hl 5 rfl) ?_
              refine lv_aload_n hx hb dX2_leastAcross_56 rfl (lv_at hl 1 rfl) ?_
              refine lv_iload_n hx hb dX2_leastAcross_57 rfl (lv_at hl 3 rfl) ?_
              refine lv_iload_n hx hb dX2_leastAcross_58 rfl (lv_at hl 4 rfl) ?_
              refine lv_iload hx hb dX2_leastAcross_59 (lv_at hl 6 rfl) ?_
              refine lv_iload hx hb dX2_leastAcross_61 (lv_at hl 0 rfl) ?_
              refine u_callV (cf' := cC cyI cO ad n d md go ke ha wy ab be sr) (As := [.int (nI i), .int (nI j), .int (nI k), .int (nI q)]) (rest := [.int a]) (st1 := [.int (acV d i j k q), .int a]) C hW (c_X2_across l D cyI cO cyZ ad fa n d md go ke ha wy ab be sr i j k q (by omega) (by omega) (by omega) (by omega)) mv_yX2_across mw_449 rfl ⟨rfl, rfl, Nat.le_of_ble_eq_true rfl, Nat.le_of_ble_eq_true rfl⟩ (by decide) cC_27 rfl rfl hl (Nat.le_of_ble_eq_true rfl) rfl rfl dX2_leastAcross_63 (fun H locs hW => ?_)
              refine u_min C mw_444 hl (by decide) (Nat.le_of_ble_eq_true rfl) dX2_leastAcross_66 ?_
              refine u_top (y := mn a (acV d i j k q)) rfl ?_
              refine lv_istore (lv' := [(4, .int (mn a (acV d i j k q))), (6, .int (nI q)), (0, .ref (ad 27)), (1, .int x), (2, .int (nI i)), (3, .int (nI j)), (5, .int (nI k))]) hx hb dX2_leastAcross_69 hl (by decide) rfl (fun ls hl => ?_)
              refine lv_iinc (v := nI (q + 1)) (lv' := [(6, .int (nI (q + 1))), (4, .int (mn a (acV d i j k q))), (0, .ref (ad 27)), (1, .int x), (2, .int (nI i)), (3, .int (nI j)), (5, .int (nI k))]) hx hb dX2_leastAcross_71 hl (k := 1) rfl (nI_1 _) (by decide) rfl (fun ls hl => ?_)
              refine lv_goto (tgt := 24) hx hb dX2_leastAcross_74 (by decide) ?_
              exact ih24  (q + 1) (mn a (acV d i j k q)) (by omega) (by have h9 := r24; simp only [lp_s, lp_0, laI, if_pos c42_1, if_pos c51_2] at h9; exact h9) H locs hW ls (lv_sub hl [0, 2, 3, 4, 5, 1, 6] rfl)
      exact L24 (n - k) k a (by omega) r8 H locs hW ls (lv_sub hl [0, 2, 3, 4, 5, 6, 1] rfl)
  exact L8 n 0 2000 (by omega) rfl H locs hW ls (lv_sub hl [0, 2, 3, 4, 5, 1] rfl)
set_option maxHeartbeats 4000000 in
set_option maxRecDepth 100000 in
theorem c_X2_weigh (l : Launch) (D : va_G) (cyI cO cyZ : ClassId) (ad : Nat → Nat) (fa : Nat) (n : Nat) (d md : Nat → Nat → Int32) (go ke ha : Nat → Int32) (wy : Nat → Nat → Int32) (ab be sr : Int32) (x : Int32) (hn : n ≤ 6) : Ct l yX2_weigh (Cond.code yX2_weigh cX2_weigh 5 (some .int) :: wsL_law) ({ frames := 3, cells := 0, slots := 0, locals := 80 } : Room) D (ty3 cyI cO cyZ) 29 ad fa [.ref (ad 27), .int x] (cC cyI cO ad n d md go ke ha wy ab be sr) (cC cyI cO ad n d md go ke ha wy ab be sr) (some (.int (weV n d x))) := by
  refine Ct.of (by decide) (Nat.le_of_ble_eq_true rfl) ?_
  intro p e s m args below meth c A C hr H locs hW ls hl
  have C : Cx p s m args meth c cX2_weigh 5 RX2 D (ty3 cyI cO cyZ) fa A := C
  have hx := C.1
  have hb := C.2.1
  have hl : lv_has ls 5 [(0, .ref (ad 27)), (1, .int x)] := hl
  refine lv_sipush (v := 2000) hx hb dX2_weigh_0 (by decide) ?_
  refine lv_istore_n (lv' := [(2, .int 2000), (0, .ref (ad 27)), (1, .int x)]) hx hb dX2_weigh_3 rfl hl (by decide) rfl (fun ls hl => ?_)
  refine lv_iconst (v := 0) hx hb dX2_weigh_4 (by decide) ?_
  refine lv_istore_n (lv' := [(3, .int 0), (2, .int 2000), (0, .ref (ad 27)), (1, .int x)]) hx hb dX2_weigh_5 rfl hl (by decide) rfl (fun ls hl => ?_)
  have L6 : ∀ (k6 : Nat) (i : Nat) (a : Int32), i + k6 = n → lp (weO n d x) i k6 a = weV n d x → ∀ (H : Heap) (locs : List Loc), Wd D 29 ad (cC cyI cO ad n d md go ke ha wy ab be sr) A s.heap H locs → ∀ ls : Array Slot, lv_has ls 5 [(3, .int (nI i)), (0, .ref (ad 27)), (1, .int x), (2, .int a)] → W p l e ({ frames := 3, cells := 0, slots := 0, locals := 80 } : Room) s m args below meth c H locs 0 0 (MQ below (uQ D 29 ad (cC cyI cO ad n d md go ke ha wy ab be sr) (some (.int (weV n d x))) A) args s 0 0 A) (F0 m 6 ls []) := by
    intro k6
    induction k6 with
    | zero =>
      intro i a hi r6 H locs hW ls hl
      refine lv_iload_n hx hb dX2_weigh_6 rfl (lv_at hl 0 rfl) ?_
      refine lv_aload_n hx hb dX2_weigh_7 rfl (lv_at hl 1 rfl) ?_
      refine u_get C hW inlX2 (by decide) cC_27 rfl 0 (by decide) mw_52 rfl dX2_weigh_8 ?_
      refine u_getN C hW inlX3 (by decide) cC_1 rfl 2 (by decide) (List.mem_of_getElem? (i := 10) rfl) rfl dX2_weigh_11 ?_
      refine lv_icmp_ge (tgt := 74) hx hb dX2_weigh_14 (by decide) (fun _ => ?_) (fun c9 => absurd (nI_le (by omega) (by omega)) c9)
      refine lv_iload_n hx hb dX2_weigh_74 rfl (lv_at hl 3 rfl) ?_
      exact u_iret C hr hW dX2_weigh_75 r6 rfl
    | succ k6 ih6 =>
      intro i a hi r6 H locs hW ls hl
      refine lv_iload_n hx hb dX2_weigh_6 rfl (lv_at hl 0 rfl) ?_
      refine lv_aload_n hx hb dX2_weigh_7 rfl (lv_at hl 1 rfl) ?_
      refine u_get C hW inlX2 (by decide) cC_27 rfl 0 (by decide) mw_52 rfl dX2_weigh_8 ?_
      refine u_getN C hW inlX3 (by decide) cC_1 rfl 2 (by decide) (List.mem_of_getElem? (i := 10) rfl) rfl dX2_weigh_11 ?_
      refine lv_icmp_ge (tgt := 74) hx hb dX2_weigh_14 (by decide) (fun c9 => absurd c9 (nI_ge (by omega) (by omega))) (fun _ => ?_)
      refine lv_iload_n hx hb dX2_weigh_17 rfl (lv_at hl 0 rfl) ?_
      refine lv_istore (lv' := [(4, .int (nI i)), (3, .int (nI i)), (0, .ref (ad 27)), (1, .int x), (2, .int a)]) hx hb dX2_weigh_18 hl (by decide) rfl (fun ls hl => ?_)
      have L20 : ∀ (k20 : Nat) (j : Nat) (a : Int32), j + k20 = n → lp (weO n d x) (i + 1) k6 (lp (weI n d x i) j k20 a) = weV n d x → ∀ (H : Heap) (locs : List Loc), Wd D 29 ad (cC cyI cO ad n d md go ke ha wy ab be sr) A s.heap H locs → ∀ ls : Array Slot, lv_has ls 5 [(4, .int (nI j)), (0, .ref (ad 27)), (1, .int x), (2, .int a), (3, .int (nI i))] → W p l e ({ frames := 3, cells := 0, slots := 0, locals := 80 } : Room) s m args below meth c H locs 0 0 (MQ below (uQ D 29 ad (cC cyI cO ad n d md go ke ha wy ab be sr) (some (.int (weV n d x))) A) args s 0 0 A) (F0 m 20 ls []) := by
        intro k20
        induction k20 with
        | zero =>
          intro j a hj r20 H locs hW ls hl
          refine lv_iload hx hb dX2_weigh_20 (lv_at hl 0 rfl) ?_
          refine lv_aload_n hx hb dX2_weigh_22 rfl (lv_at hl 1 rfl) ?_
          refine u_get C hW inlX2 (by decide) cC_27 rfl 0 (by decide) mw_52 rfl dX2_weigh_23 ?_
          refine u_getN C hW inlX3 (by decide) cC_1 rfl 2 (by decide) (List.mem_of_getElem? (i := 10) rfl) rfl dX2_weigh_26 ?_
          refine lv_icmp_ge (tgt := 68) hx hb dX2_weigh_29 (by decide) (fun _ => ?_) (fun c9 => absurd (nI_le (by omega) (by omega)) c9)
          refine lv_iinc (v := nI (i + 1)) (lv' := [(3, .int (nI (i + 1))), (4, .int (nI j)), (0, .ref (ad 27)), (1, .int x), (2, .int a)]) hx hb dX2_weigh_68 hl (k := 4) rfl (nI_1 _) (by decide) rfl (fun ls hl => ?_)
          refine lv_goto (tgt := 6) hx hb dX2_weigh_71 (by decide) ?_
          exact ih6  (i + 1) a (by omega) r20 H locs hW ls (lv_sub hl [0, 2, 3, 4] rfl)
        | succ k20 ih20 =>
          intro j a hj r20 H locs hW ls hl
          refine lv_iload hx hb dX2_weigh_20 (lv_at hl 0 rfl) ?_
          refine lv_aload_n hx hb dX2_weigh_22 rfl (lv_at hl 1 rfl) ?_
          refine u_get C hW inlX2 (by decide) cC_27 rfl 0 (by decide) mw_52 rfl dX2_weigh_23 ?_
          refine u_getN C hW inlX3 (by decide) cC_1 rfl 2 (by decide) (List.mem_of_getElem? (i := 10) rfl) rfl dX2_weigh_26 ?_
          refine lv_icmp_ge (tgt := 68) hx hb dX2_weigh_29 (by decide) (fun c9 => absurd c9 (nI_ge (by omega) (by omega))) (fun _ => ?_)
          refine lv_iload_n hx hb dX2_weigh_32 rfl (lv_at hl 2 rfl) ?_
          refine lv_iload_n hx hb dX2_weigh_33 rfl (lv_at hl 4 rfl) ?_
          refine u_callS (cf' := cC cyI cO ad n d md go ke ha wy ab be sr) (As := [.int x, .int (nI i)]) (rest := []) (st1 := [.int (iiV x (nI i))]) C hW (c_X2_isIn l D cyI cO cyZ ad fa n d md go ke ha wy ab be sr x (nI i) ) ms_yX2_isIn mw_437 rfl ⟨rfl, rfl, Nat.le_of_ble_eq_true rfl, Nat.le_of_ble_eq_true rfl⟩ hl (Nat.le_of_ble_eq_true rfl) rfl rfl dX2_weigh_34 (fun H locs hW => ?_)
          refine lv_if_eq (tgt := 62) hx hb dX2_weigh_37 (by decide) (fun c37_1 => ?_) (fun c37_1 => ?_)
          · skip
            refine lv_iinc (v := nI (j + 1)) (lv' := [(4, .int (nI (j + 1))), (0, .ref (ad 27)), (1, .int x), (2, .int a), (3, .int (nI i))]) hx hb dX2_weigh_62 hl (k := 0) rfl (nI_1 _) (by decide) rfl (fun ls hl => ?_)
            refine lv_goto (tgt := 20) hx hb dX2_weigh_65 (by decide) ?_
            exact ih20  (j + 1) a (by omega) (by have h9 := r20; simp only [lp_s, lp_0, weI, if_pos c37_1] at h9; exact h9) H locs hW ls (lv_sub hl [0, 1, 2, 3, 4] rfl)
          · skip
            refine lv_iload_n hx hb dX2_weigh_40 rfl (lv_at hl 2 rfl) ?_
            refine lv_iload hx hb dX2_weigh_41 (lv_at hl 0 rfl) ?_
            refine u_callS (cf' := cC cyI cO ad n d md go ke ha wy ab be sr) (As := [.int x, .int (nI j)]) (rest := []) (st1 := [.int (iiV x (nI j))]) C hW (c_X2_isIn l D cyI cO cyZ ad fa n d md go ke ha wy ab be sr x (nI j) ) ms_yX2_isIn mw_437 rfl ⟨rfl, rfl, Nat.le_of_ble_eq_true rfl, Nat.le_of_ble_eq_true rfl⟩ hl (Nat.le_of_ble_eq_true rfl) rfl rfl dX2_weigh_43 (fun H locs hW => ?_)
            refine lv_if_eq (tgt := 62) hx hb dX2_weigh_46 (by decide) (fun c46_2 => ?_) (fun c46_2 => ?_)
            · skip
              refine lv_iinc (v := nI (j + 1)) (lv' := [(4, .int (nI (j + 1))), (0, .ref (ad 27)), (1, .int x), (2, .int a), (3, .int (nI i))]) hx hb dX2_weigh_62 hl (k := 0) rfl (nI_1 _) (by decide) rfl (fun ls hl => ?_)
              refine lv_goto (tgt := 20) hx hb dX2_weigh_65 (by decide) ?_
              exact ih20  (j + 1) a (by omega) (by have h9 := r20; simp only [lp_s, lp_0, weI, if_neg c37_1, if_pos c46_2] at h9; exact h9) H locs hW ls (lv_sub hl [0, 1, 2, 3, 4] rfl)
            · skip
              refine lv_iload_n hx hb dX2_weigh_49 rfl (lv_at hl 3 rfl) ?_
              refine lv_aload_n hx hb dX2_weigh_50 rfl (lv_at hl 1 rfl) ?_
              refine lv_iload_n hx hb dX2_weigh_51 rfl (lv_at hl 2 rfl) ?_
              refine lv_iload_n hx hb dX2_weigh_52 rfl (lv_at hl 4 rfl) ?_
              refine lv_iload hx hb dX2_weigh_53 (lv_at hl 0 rfl) ?_
              refine u_callV (cf' := cC cyI cO ad n d md go ke ha wy ab be sr) (As := [.int x, .int (nI i), .int (nI j)]) (rest := [.int a]) (st1 := [.int (laV n d x i j), .int a]) C hW (c_X2_leastAcross l D cyI cO cyZ ad fa n d md go ke ha wy ab be sr x i j (by omega) (by omega) (by omega)) mv_yX2_leastAcross mw_445 rfl ⟨rfl, rfl, Nat.le_of_ble_eq_true rfl, Nat.le_of_ble_eq_true rfl⟩ (by decide) cC_27 rfl rfl hl (Nat.le_of_ble_eq_true rfl) rfl rfl dX2_weigh_55 (fun H locs hW => ?_)
              refine u_min C mw_444 hl (by decide) (Nat.le_of_ble_eq_true rfl) dX2_weigh_58 ?_
              refine u_top (y := mn a (laV n d x i j)) rfl ?_
              refine lv_istore_n (lv' := [(2, .int (mn a (laV n d x i j))), (4, .int (nI j)), (0, .ref (ad 27)), (1, .int x), (3, .int (nI i))]) hx hb dX2_weigh_61 rfl hl (by decide) rfl (fun ls hl => ?_)
              refine lv_iinc (v := nI (j + 1)) (lv' := [(4, .int (nI (j + 1))), (2, .int (mn a (laV n d x i j))), (0, .ref (ad 27)), (1, .int x), (3, .int (nI i))]) hx hb dX2_weigh_62 hl (k := 1) rfl (nI_1 _) (by decide) rfl (fun ls hl => ?_)
              refine lv_goto (tgt := 20) hx hb dX2_weigh_65 (by decide) ?_
              exact ih20  (j + 1) (mn a (laV n d x i j)) (by omega) (by have h9 := r20; simp only [lp_s, lp_0, weI, if_neg c37_1, if_neg c46_2] at h9; exact h9) H locs hW ls (lv_sub hl [0, 2, 3, 1, 4] rfl)
      exact L20 (n - i) i a (by omega) r6 H locs hW ls (lv_sub hl [0, 2, 3, 4, 1] rfl)
  exact L6 n 0 2000 (by omega) rfl H locs hW ls (lv_sub hl [0, 2, 3, 1] rfl)
set_option maxHeartbeats 4000000 in
set_option maxRecDepth 100000 in
theorem c_X2_howManyWeigh (l : Launch) (D : va_G) (cyI cO cyZ : ClassId) (ad : Nat → Nat) (fa : Nat) (n : Nat) (d md : Nat → Nat → Int32) (go ke ha : Nat → Int32) (wy : Nat → Nat → Int32) (ab be sr : Int32)  (hn : n ≤ 6) (h2 : 2 ≤ n) : Ct l yX2_howManyWeigh (Cond.code yX2_howManyWeigh cX2_howManyWeigh 3 (some .int) :: wsL_law) ({ frames := 4, cells := 0, slots := 0, locals := 104 } : Room) D (ty3 cyI cO cyZ) 29 ad fa [.ref (ad 27)] (cC cyI cO ad n d md go ke ha wy ab be sr) (cC cyI cO ad n d md go ke ha wy ab be sr) (some (.int (hwV n d))) := by
  refine Ct.of (by decide) (Nat.le_of_ble_eq_true rfl) ?_
  intro p e s m args below meth c A C hr H locs hW ls hl
  have C : Cx p s m args meth c cX2_howManyWeigh 3 RX2 D (ty3 cyI cO cyZ) fa A := C
  have hx := C.1
  have hb := C.2.1
  have hl : lv_has ls 3 [(0, .ref (ad 27))] := hl
  have hpw := pw_half h2 hn
  refine lv_iconst (v := 0) hx hb dX2_howManyWeigh_0 (by decide) ?_
  refine lv_istore_n (lv' := [(1, .int 0), (0, .ref (ad 27))]) hx hb dX2_howManyWeigh_1 rfl hl (by decide) rfl (fun ls hl => ?_)
  refine lv_iconst (v := 1) hx hb dX2_howManyWeigh_2 (by decide) ?_
  refine lv_istore_n (lv' := [(2, .int 1), (1, .int 0), (0, .ref (ad 27))]) hx hb dX2_howManyWeigh_3 rfl hl (by decide) rfl (fun ls hl => ?_)
  have L4 : ∀ (k4 : Nat) (q : Nat) (a : Int32), q + k4 = 2 ^ (n - 1) - 1 → lp (hwF n d) q k4 a = hwV n d → ∀ (H : Heap) (locs : List Loc), Wd D 29 ad (cC cyI cO ad n d md go ke ha wy ab be sr) A s.heap H locs → ∀ ls : Array Slot, lv_has ls 3 [(2, .int (nI (2 * q + 1))), (0, .ref (ad 27)), (1, .int a)] → W p l e ({ frames := 4, cells := 0, slots := 0, locals := 104 } : Room) s m args below meth c H locs 0 0 (MQ below (uQ D 29 ad (cC cyI cO ad n d md go ke ha wy ab be sr) (some (.int (hwV n d))) A) args s 0 0 A) (F0 m 4 ls []) := by
    intro k4
    induction k4 with
    | zero =>
      intro q a hq r4 H locs hW ls hl
      refine lv_iload_n hx hb dX2_howManyWeigh_4 rfl (lv_at hl 0 rfl) ?_
      refine lv_aload_n hx hb dX2_howManyWeigh_5 rfl (lv_at hl 1 rfl) ?_
      refine u_callV (cf' := cC cyI cO ad n d md go ke ha wy ab be sr) (As := []) (rest := [.int (nI (2 * q + 1))]) (st1 := [.int (nI (2 ^ n - 1)), .int (nI (2 * q + 1))]) C hW (c_X2_allPoints l D cyI cO cyZ ad fa n d md go ke ha wy ab be sr  (by omega)) mv_yX2_allPoints mw_433 rfl ⟨rfl, rfl, Nat.le_of_ble_eq_true rfl, Nat.le_of_ble_eq_true rfl⟩ (by decide) cC_27 rfl rfl hl (Nat.le_of_ble_eq_true rfl) rfl rfl dX2_howManyWeigh_6 (fun H locs hW => ?_)
      refine lv_icmp_ge (tgt := 37) hx hb dX2_howManyWeigh_9 (by decide) (fun _ => ?_) (fun c9 => absurd (show nI (2 ^ n - 1) ≤ nI (2 * q + 1) from nI_le (by omega) (by omega)) c9)
      refine lv_iload_n hx hb dX2_howManyWeigh_37 rfl (lv_at hl 2 rfl) ?_
      exact u_iret C hr hW dX2_howManyWeigh_38 r4 rfl
    | succ k4 ih4 =>
      intro q a hq r4 H locs hW ls hl
      refine lv_iload_n hx hb dX2_howManyWeigh_4 rfl (lv_at hl 0 rfl) ?_
      refine lv_aload_n hx hb dX2_howManyWeigh_5 rfl (lv_at hl 1 rfl) ?_
      refine u_callV (cf' := cC cyI cO ad n d md go ke ha wy ab be sr) (As := []) (rest := [.int (nI (2 * q + 1))]) (st1 := [.int (nI (2 ^ n - 1)), .int (nI (2 * q + 1))]) C hW (c_X2_allPoints l D cyI cO cyZ ad fa n d md go ke ha wy ab be sr  (by omega)) mv_yX2_allPoints mw_433 rfl ⟨rfl, rfl, Nat.le_of_ble_eq_true rfl, Nat.le_of_ble_eq_true rfl⟩ (by decide) cC_27 rfl rfl hl (Nat.le_of_ble_eq_true rfl) rfl rfl dX2_howManyWeigh_6 (fun H locs hW => ?_)
      refine lv_icmp_ge (tgt := 37) hx hb dX2_howManyWeigh_9 (by decide) (fun c9 => absurd c9 (show ¬ nI (2 ^ n - 1) ≤ nI (2 * q + 1) from nI_ge (by omega) (by omega))) (fun _ => ?_)
      refine lv_iload_n hx hb dX2_howManyWeigh_12 rfl (lv_at hl 2 rfl) ?_
      refine lv_aload_n hx hb dX2_howManyWeigh_13 rfl (lv_at hl 1 rfl) ?_
      refine lv_iload_n hx hb dX2_howManyWeigh_14 rfl (lv_at hl 0 rfl) ?_
      refine u_callV (cf' := cC cyI cO ad n d md go ke ha wy ab be sr) (As := [.int (nI (2 * q + 1))]) (rest := [.int a]) (st1 := [.int (weV n d (nI (2 * q + 1))), .int a]) C hW (c_X2_weigh l D cyI cO cyZ ad fa n d md go ke ha wy ab be sr (nI (2 * q + 1)) (by omega)) mv_yX2_weigh mw_474 rfl ⟨rfl, rfl, Nat.le_of_ble_eq_true rfl, Nat.le_of_ble_eq_true rfl⟩ (by decide) cC_27 rfl rfl hl (Nat.le_of_ble_eq_true rfl) rfl rfl dX2_howManyWeigh_15 (fun H locs hW => ?_)
      refine lv_if_le (tgt := 25) hx hb dX2_howManyWeigh_18 (by decide) (fun c18_1 => ?_) (fun c18_1 => ?_)
      · skip
        refine lv_iconst (v := 0) hx hb dX2_howManyWeigh_25 (by decide) ?_
        refine u_callSN (cf' := cC cyI cO ad n d md go ke ha wy ab be sr) (As := [.int 0]) (rest := [.int a]) (st1 := [.int (asA 0), .int a]) C hW (c_X4_asAnswer l D cyI cO cyZ ad fa n d md go ke ha wy ab be sr 0 ) ms_yX4_asAnswer (List.mem_of_getElem? (i := 13) rfl) rfl ⟨rfl, rfl, Nat.le_of_ble_eq_true rfl, Nat.le_of_ble_eq_true rfl⟩ hl (Nat.le_of_ble_eq_true rfl) rfl rfl dX2_howManyWeigh_26 (fun H locs hW => ?_)
        refine lv_iadd hx hb dX2_howManyWeigh_29 ?_
        refine lv_istore_n (lv' := [(1, .int (a + (asA 0))), (2, .int (nI (2 * q + 1))), (0, .ref (ad 27))]) hx hb dX2_howManyWeigh_30 rfl hl (by decide) rfl (fun ls hl => ?_)
        refine lv_iinc (v := nI (2 * (q + 1) + 1)) (lv' := [(2, .int (nI (2 * (q + 1) + 1))), (1, .int (a + (asA 0))), (0, .ref (ad 27))]) hx hb dX2_howManyWeigh_31 hl (k := 1) rfl (nI_add (2 * q + 1) 2) (by decide) rfl (fun ls hl => ?_)
        refine lv_goto (tgt := 4) hx hb dX2_howManyWeigh_34 (by decide) ?_
        exact ih4  (q + 1) (a + (asA 0)) (by omega) (by have h9 := r4; simp only [lp_s, lp_0, hwF, if_pos c18_1] at h9; exact h9) H locs hW ls (lv_sub hl [0, 2, 1] rfl)
      · skip
        refine lv_iconst (v := 1) hx hb dX2_howManyWeigh_21 (by decide) ?_
        refine lv_goto (tgt := 26) hx hb dX2_howManyWeigh_22 (by decide) ?_
        refine u_callSN (cf' := cC cyI cO ad n d md go ke ha wy ab be sr) (As := [.int 1]) (rest := [.int a]) (st1 := [.int (asA 1), .int a]) C hW (c_X4_asAnswer l D cyI cO cyZ ad fa n d md go ke ha wy ab be sr 1 ) ms_yX4_asAnswer (List.mem_of_getElem? (i := 13) rfl) rfl ⟨rfl, rfl, Nat.le_of_ble_eq_true rfl, Nat.le_of_ble_eq_true rfl⟩ hl (Nat.le_of_ble_eq_true rfl) rfl rfl dX2_howManyWeigh_26 (fun H locs hW => ?_)
        refine lv_iadd hx hb dX2_howManyWeigh_29 ?_
        refine lv_istore_n (lv' := [(1, .int (a + (asA 1))), (2, .int (nI (2 * q + 1))), (0, .ref (ad 27))]) hx hb dX2_howManyWeigh_30 rfl hl (by decide) rfl (fun ls hl => ?_)
        refine lv_iinc (v := nI (2 * (q + 1) + 1)) (lv' := [(2, .int (nI (2 * (q + 1) + 1))), (1, .int (a + (asA 1))), (0, .ref (ad 27))]) hx hb dX2_howManyWeigh_31 hl (k := 1) rfl (nI_add (2 * q + 1) 2) (by decide) rfl (fun ls hl => ?_)
        refine lv_goto (tgt := 4) hx hb dX2_howManyWeigh_34 (by decide) ?_
        exact ih4  (q + 1) (a + (asA 1)) (by omega) (by have h9 := r4; simp only [lp_s, lp_0, hwF, if_neg c18_1] at h9; exact h9) H locs hW ls (lv_sub hl [0, 2, 1] rfl)
  exact L4 (2 ^ (n - 1) - 1) 0 0 (by omega) rfl H locs hW ls (lv_sub hl [0, 2, 1] rfl)
set_option maxHeartbeats 4000000 in
set_option maxRecDepth 100000 in
theorem c_X2_leftOf (l : Launch) (D : va_G) (cyI cO cyZ : ClassId) (ad : Nat → Nat) (fa : Nat) (n : Nat) (d md : Nat → Nat → Int32) (go ke ha : Nat → Int32) (wy : Nat → Nat → Int32) (ab be sr : Int32) (i j : Nat) (hn : n ≤ 6) (h2 : 2 ≤ n) (hi : i < 6) (hj : j < 6) : Ct l yX2_leftOf (Cond.code yX2_leftOf cX2_leftOf 5 (some .int) :: wsL_law) ({ frames := 4, cells := 0, slots := 0, locals := 104 } : Room) D (ty3 cyI cO cyZ) 29 ad fa [.ref (ad 27), .int (nI i), .int (nI j)] (cC cyI cO ad n d md go ke ha wy ab be sr) (cC cyI cO ad n d md go ke ha wy ab be sr) (some (.int (loV n d i j))) := by
  refine Ct.of (by decide) (Nat.le_of_ble_eq_true rfl) ?_
  intro p e s m args below meth c A C hr H locs hW ls hl
  have C : Cx p s m args meth c cX2_leftOf 5 RX2 D (ty3 cyI cO cyZ) fa A := C
  have hx := C.1
  have hb := C.2.1
  have hl : lv_has ls 5 [(0, .ref (ad 27)), (1, .int (nI i)), (2, .int (nI j))] := hl
  have hpw := pw_half h2 hn
  refine lv_iconst (v := 2) hx hb dX2_leftOf_0 (by decide) ?_
  refine lv_aload_n hx hb dX2_leftOf_1 rfl (lv_at hl 0 rfl) ?_
  refine u_get C hW inlX2 (by decide) cC_27 rfl 0 (by decide) mw_52 rfl dX2_leftOf_2 ?_
  refine u_getN C hW inlX3 (by decide) cC_1 rfl 0 (by decide) (List.mem_of_getElem? (i := 11) rfl) rfl dX2_leftOf_5 ?_
  refine lv_iload_n hx hb dX2_leftOf_8 rfl (lv_at hl 1 rfl) ?_
  refine u_aald C hW (by decide) cC_2 1 rfl i rfl (by omega) (by decide) (cC_outer (by omega)) dX2_leftOf_9 ?_
  refine lv_iload_n hx hb dX2_leftOf_10 rfl (lv_at hl 2 rfl) ?_
  refine u_iald C hW (by omega) (cC_d (by omega)) 0 rfl j rfl (by omega) (by decide) dX2_leftOf_11 ?_
  refine lv_imul hx hb dX2_leftOf_12 ?_
  refine lv_istore_n (lv' := [(3, .int (2 * (d i j))), (0, .ref (ad 27)), (1, .int (nI i)), (2, .int (nI j))]) hx hb dX2_leftOf_13 rfl hl (by decide) rfl (fun ls hl => ?_)
  refine lv_iconst (v := 1) hx hb dX2_leftOf_14 (by decide) ?_
  refine lv_istore (lv' := [(4, .int 1), (3, .int (2 * (d i j))), (0, .ref (ad 27)), (1, .int (nI i)), (2, .int (nI j))]) hx hb dX2_leftOf_15 hl (by decide) rfl (fun ls hl => ?_)
  have L17 : ∀ (k17 : Nat) (q : Nat) (a : Int32), q + k17 = 2 ^ (n - 1) - 1 → lp (loF n d i j) q k17 a = loV n d i j → ∀ (H : Heap) (locs : List Loc), Wd D 29 ad (cC cyI cO ad n d md go ke ha wy ab be sr) A s.heap H locs → ∀ ls : Array Slot, lv_has ls 5 [(4, .int (nI (2 * q + 1))), (0, .ref (ad 27)), (1, .int (nI i)), (2, .int (nI j)), (3, .int a)] → W p l e ({ frames := 4, cells := 0, slots := 0, locals := 104 } : Room) s m args below meth c H locs 0 0 (MQ below (uQ D 29 ad (cC cyI cO ad n d md go ke ha wy ab be sr) (some (.int (loV n d i j))) A) args s 0 0 A) (F0 m 17 ls []) := by
    intro k17
    induction k17 with
    | zero =>
      intro q a hq r17 H locs hW ls hl
      refine lv_iload hx hb dX2_leftOf_17 (lv_at hl 0 rfl) ?_
      refine lv_aload_n hx hb dX2_leftOf_19 rfl (lv_at hl 1 rfl) ?_
      refine u_callV (cf' := cC cyI cO ad n d md go ke ha wy ab be sr) (As := []) (rest := [.int (nI (2 * q + 1))]) (st1 := [.int (nI (2 ^ n - 1)), .int (nI (2 * q + 1))]) C hW (c_X2_allPoints l D cyI cO cyZ ad fa n d md go ke ha wy ab be sr  (by omega)) mv_yX2_allPoints mw_433 rfl ⟨rfl, rfl, Nat.le_of_ble_eq_true rfl, Nat.le_of_ble_eq_true rfl⟩ (by decide) cC_27 rfl rfl hl (Nat.le_of_ble_eq_true rfl) rfl rfl dX2_leftOf_20 (fun H locs hW => ?_)
      refine lv_icmp_ge (tgt := 56) hx hb dX2_leftOf_23 (by decide) (fun _ => ?_) (fun c9 => absurd (show nI (2 ^ n - 1) ≤ nI (2 * q + 1) from nI_le (by omega) (by omega)) c9)
      refine lv_iload_n hx hb dX2_leftOf_56 rfl (lv_at hl 4 rfl) ?_
      exact u_iret C hr hW dX2_leftOf_57 r17 rfl
    | succ k17 ih17 =>
      intro q a hq r17 H locs hW ls hl
      refine lv_iload hx hb dX2_leftOf_17 (lv_at hl 0 rfl) ?_
      refine lv_aload_n hx hb dX2_leftOf_19 rfl (lv_at hl 1 rfl) ?_
      refine u_callV (cf' := cC cyI cO ad n d md go ke ha wy ab be sr) (As := []) (rest := [.int (nI (2 * q + 1))]) (st1 := [.int (nI (2 ^ n - 1)), .int (nI (2 * q + 1))]) C hW (c_X2_allPoints l D cyI cO cyZ ad fa n d md go ke ha wy ab be sr  (by omega)) mv_yX2_allPoints mw_433 rfl ⟨rfl, rfl, Nat.le_of_ble_eq_true rfl, Nat.le_of_ble_eq_true rfl⟩ (by decide) cC_27 rfl rfl hl (Nat.le_of_ble_eq_true rfl) rfl rfl dX2_leftOf_20 (fun H locs hW => ?_)
      refine lv_icmp_ge (tgt := 56) hx hb dX2_leftOf_23 (by decide) (fun c9 => absurd c9 (show ¬ nI (2 ^ n - 1) ≤ nI (2 * q + 1) from nI_ge (by omega) (by omega))) (fun _ => ?_)
      refine lv_iload hx hb dX2_leftOf_26 (lv_at hl 0 rfl) ?_
      refine lv_iload_n hx hb dX2_leftOf_28 rfl (lv_at hl 2 rfl) ?_
      refine u_callS (cf' := cC cyI cO ad n d md go ke ha wy ab be sr) (As := [.int (nI (2 * q + 1)), .int (nI i)]) (rest := []) (st1 := [.int (iiV (nI (2 * q + 1)) (nI i))]) C hW (c_X2_isIn l D cyI cO cyZ ad fa n d md go ke ha wy ab be sr (nI (2 * q + 1)) (nI i) ) ms_yX2_isIn mw_437 rfl ⟨rfl, rfl, Nat.le_of_ble_eq_true rfl, Nat.le_of_ble_eq_true rfl⟩ hl (Nat.le_of_ble_eq_true rfl) rfl rfl dX2_leftOf_29 (fun H locs hW => ?_)
      refine lv_iload hx hb dX2_leftOf_32 (lv_at hl 0 rfl) ?_
      refine lv_iload_n hx hb dX2_leftOf_34 rfl (lv_at hl 3 rfl) ?_
      refine u_callS (cf' := cC cyI cO ad n d md go ke ha wy ab be sr) (As := [.int (nI (2 * q + 1)), .int (nI j)]) (rest := [.int (iiV (nI (2 * q + 1)) (nI i))]) (st1 := [.int (iiV (nI (2 * q + 1)) (nI j)), .int (iiV (nI (2 * q + 1)) (nI i))]) C hW (c_X2_isIn l D cyI cO cyZ ad fa n d md go ke ha wy ab be sr (nI (2 * q + 1)) (nI j) ) ms_yX2_isIn mw_437 rfl ⟨rfl, rfl, Nat.le_of_ble_eq_true rfl, Nat.le_of_ble_eq_true rfl⟩ hl (Nat.le_of_ble_eq_true rfl) rfl rfl dX2_leftOf_35 (fun H locs hW => ?_)
      refine lv_icmp_eq (tgt := 50) hx hb dX2_leftOf_38 (by decide) (fun c38_1 => ?_) (fun c38_1 => ?_)
      · skip
        refine lv_iinc (v := nI (2 * (q + 1) + 1)) (lv' := [(4, .int (nI (2 * (q + 1) + 1))), (0, .ref (ad 27)), (1, .int (nI i)), (2, .int (nI j)), (3, .int a)]) hx hb dX2_leftOf_50 hl (k := 0) rfl (nI_add (2 * q + 1) 2) (by decide) rfl (fun ls hl => ?_)
        refine lv_goto (tgt := 17) hx hb dX2_leftOf_53 (by decide) ?_
        exact ih17  (q + 1) a (by omega) (by have h9 := r17; simp only [lp_s, lp_0, loF, if_pos c38_1] at h9; exact h9) H locs hW ls (lv_sub hl [0, 1, 2, 3, 4] rfl)
      · skip
        refine lv_iload_n hx hb dX2_leftOf_41 rfl (lv_at hl 4 rfl) ?_
        refine lv_aload_n hx hb dX2_leftOf_42 rfl (lv_at hl 1 rfl) ?_
        refine lv_iload hx hb dX2_leftOf_43 (lv_at hl 0 rfl) ?_
        refine u_callV (cf' := cC cyI cO ad n d md go ke ha wy ab be sr) (As := [.int (nI (2 * q + 1))]) (rest := [.int a]) (st1 := [.int (weV n d (nI (2 * q + 1))), .int a]) C hW (c_X2_weigh l D cyI cO cyZ ad fa n d md go ke ha wy ab be sr (nI (2 * q + 1)) (by omega)) mv_yX2_weigh mw_474 rfl ⟨rfl, rfl, Nat.le_of_ble_eq_true rfl, Nat.le_of_ble_eq_true rfl⟩ (by decide) cC_27 rfl rfl hl (Nat.le_of_ble_eq_true rfl) rfl rfl dX2_leftOf_45 (fun H locs hW => ?_)
        refine lv_isub hx hb dX2_leftOf_48 ?_
        refine lv_istore_n (lv' := [(3, .int (a - (weV n d (nI (2 * q + 1))))), (4, .int (nI (2 * q + 1))), (0, .ref (ad 27)), (1, .int (nI i)), (2, .int (nI j))]) hx hb dX2_leftOf_49 rfl hl (by decide) rfl (fun ls hl => ?_)
        refine lv_iinc (v := nI (2 * (q + 1) + 1)) (lv' := [(4, .int (nI (2 * (q + 1) + 1))), (3, .int (a - (weV n d (nI (2 * q + 1))))), (0, .ref (ad 27)), (1, .int (nI i)), (2, .int (nI j))]) hx hb dX2_leftOf_50 hl (k := 1) rfl (nI_add (2 * q + 1) 2) (by decide) rfl (fun ls hl => ?_)
        refine lv_goto (tgt := 17) hx hb dX2_leftOf_53 (by decide) ?_
        exact ih17  (q + 1) (a - (weV n d (nI (2 * q + 1)))) (by omega) (by have h9 := r17; simp only [lp_s, lp_0, loF, if_neg c38_1] at h9; exact h9) H locs hW ls (lv_sub hl [0, 2, 3, 4, 1] rfl)
  exact L17 (2 ^ (n - 1) - 1) 0 (2 * (d i j)) (by omega) rfl H locs hW ls (lv_sub hl [0, 2, 3, 4, 1] rfl)
set_option maxHeartbeats 4000000 in
set_option maxRecDepth 100000 in
theorem c_X0_howMany (l : Launch) (D : va_G) (cyI cO cyZ : ClassId) (ad : Nat → Nat) (fa : Nat) (n : Nat) (d md : Nat → Nat → Int32) (go ke ha : Nat → Int32) (wy : Nat → Nat → Int32) (ab be sr : Int32)  (hn : n ≤ 6) : Ct l yX0_howMany (Cond.code yX0_howMany cX0_howMany 1 (some .int) :: wsL_law) ({ frames := 0, cells := 0, slots := 0, locals := 0 } : Room) D (ty3 cyI cO cyZ) 29 ad fa [.ref (ad 28)] (cC cyI cO ad n d md go ke ha wy ab be sr) (cC cyI cO ad n d md go ke ha wy ab be sr) (some (.int (nI (fct n)))) := by
  refine Ct.of (by decide) (Nat.le_of_ble_eq_true rfl) ?_
  intro p e s m args below meth c A C hr H locs hW ls hl
  have C : Cx p s m args meth c cX0_howMany 1 RX0 D (ty3 cyI cO cyZ) fa A := C
  have hx := C.1
  have hb := C.2.1
  have hl : lv_has ls 1 [(0, .ref (ad 28))] := hl
  refine va_getsN hx hb C.2.2.2.2.2.2.2.2.2.1 hW.2.2 C.2.2.2.1 (va_Nw.use rfl (C.2.2.2.2.2.2.1 _ (List.mem_of_getElem? (i := 5) rfl))) (fun _ h => h) dX0_howMany_0 ?_
  refine lv_aload_n hx hb dX0_howMany_3 rfl (lv_at hl 0 rfl) ?_
  refine u_get C hW inlX0 (by decide) cC_28 rfl 0 (by decide) mw_57 rfl dX0_howMany_4 ?_
  refine u_getN C hW inlX3 (by decide) cC_1 rfl 2 (by decide) (List.mem_of_getElem? (i := 6) rfl) rfl dX0_howMany_7 ?_
  refine va_ti hx hb C.2.2.2.2.2.2.2.2.2.2 hW.2.2 (vp_in_nI (n := n) (by omega) (by decide)) (v := .int (nI (fct n))) (facV_n hn) dX0_howMany_10 ?_
  exact u_iret C hr hW dX0_howMany_11 rfl rfl
set_option maxHeartbeats 4000000 in
set_option maxRecDepth 100000 in
theorem c_X0_reached (l : Launch) (D : va_G) (cyI cO cyZ : ClassId) (ad : Nat → Nat) (fa : Nat) (n : Nat) (d md : Nat → Nat → Int32) (go ke ha : Nat → Int32) (wy : Nat → Nat → Int32) (ab be sr : Int32) (i : Nat) (r : Int32) (hn : n ≤ 6) (hi : i < 6) : Ct l yX0_reached (Cond.code yX0_reached cX0_reached 5 (some .int) :: wsL_law) ({ frames := 0, cells := 0, slots := 0, locals := 0 } : Room) D (ty3 cyI cO cyZ) 29 ad fa [.ref (ad 28), .int (nI i), .int r] (cC cyI cO ad n d md go ke ha wy ab be sr) (cC cyI cO ad n d md go ke ha wy ab be sr) (some (.int (rcV n d i r))) := by
  refine Ct.of (by decide) (Nat.le_of_ble_eq_true rfl) ?_
  intro p e s m args below meth c A C hr H locs hW ls hl
  have C : Cx p s m args meth c cX0_reached 5 RX0 D (ty3 cyI cO cyZ) fa A := C
  have hx := C.1
  have hb := C.2.1
  have hl : lv_has ls 5 [(0, .ref (ad 28)), (1, .int (nI i)), (2, .int r)] := hl
  refine lv_iconst (v := 0) hx hb dX0_reached_0 (by decide) ?_
  refine lv_istore_n (lv' := [(3, .int 0), (0, .ref (ad 28)), (1, .int (nI i)), (2, .int r)]) hx hb dX0_reached_1 rfl hl (by decide) rfl (fun ls hl => ?_)
  refine lv_iconst (v := 0) hx hb dX0_reached_2 (by decide) ?_
  refine lv_istore (lv' := [(4, .int 0), (3, .int 0), (0, .ref (ad 28)), (1, .int (nI i)), (2, .int r)]) hx hb dX0_reached_3 hl (by decide) rfl (fun ls hl => ?_)
  have L5 : ∀ (k5 : Nat) (k : Nat) (b : Int32), k + k5 = n → lp (rcF d i r) k k5 b = rcV n d i r → ∀ (H : Heap) (locs : List Loc), Wd D 29 ad (cC cyI cO ad n d md go ke ha wy ab be sr) A s.heap H locs → ∀ ls : Array Slot, lv_has ls 5 [(4, .int (nI k)), (0, .ref (ad 28)), (1, .int (nI i)), (2, .int r), (3, .int b)] → W p l e ({ frames := 0, cells := 0, slots := 0, locals := 0 } : Room) s m args below meth c H locs 0 0 (MQ below (uQ D 29 ad (cC cyI cO ad n d md go ke ha wy ab be sr) (some (.int (rcV n d i r))) A) args s 0 0 A) (F0 m 5 ls []) := by
    intro k5
    induction k5 with
    | zero =>
      intro k b hk r5 H locs hW ls hl
      refine lv_iload hx hb dX0_reached_5 (lv_at hl 0 rfl) ?_
      refine lv_aload_n hx hb dX0_reached_7 rfl (lv_at hl 1 rfl) ?_
      refine u_get C hW inlX0 (by decide) cC_28 rfl 0 (by decide) mw_57 rfl dX0_reached_8 ?_
      refine u_getN C hW inlX3 (by decide) cC_1 rfl 2 (by decide) (List.mem_of_getElem? (i := 6) rfl) rfl dX0_reached_11 ?_
      refine lv_icmp_ge (tgt := 46) hx hb dX0_reached_14 (by decide) (fun _ => ?_) (fun c9 => absurd (nI_le (by omega) (by omega)) c9)
      refine lv_iload_n hx hb dX0_reached_46 rfl (lv_at hl 4 rfl) ?_
      exact u_iret C hr hW dX0_reached_47 r5 rfl
    | succ k5 ih5 =>
      intro k b hk r5 H locs hW ls hl
      refine lv_iload hx hb dX0_reached_5 (lv_at hl 0 rfl) ?_
      refine lv_aload_n hx hb dX0_reached_7 rfl (lv_at hl 1 rfl) ?_
      refine u_get C hW inlX0 (by decide) cC_28 rfl 0 (by decide) mw_57 rfl dX0_reached_8 ?_
      refine u_getN C hW inlX3 (by decide) cC_1 rfl 2 (by decide) (List.mem_of_getElem? (i := 6) rfl) rfl dX0_reached_11 ?_
      refine lv_icmp_ge (tgt := 46) hx hb dX0_reached_14 (by decide) (fun c9 => absurd c9 (nI_ge (by omega) (by omega))) (fun _ => ?_)
      refine lv_aload_n hx hb dX0_reached_17 rfl (lv_at hl 1 rfl) ?_
      refine u_get C hW inlX0 (by decide) cC_28 rfl 0 (by decide) mw_57 rfl dX0_reached_18 ?_
      refine u_getN C hW inlX3 (by decide) cC_1 rfl 0 (by decide) (List.mem_of_getElem? (i := 7) rfl) rfl dX0_reached_21 ?_
      refine lv_iload_n hx hb dX0_reached_24 rfl (lv_at hl 2 rfl) ?_
      refine u_aald C hW (by decide) cC_2 1 rfl i rfl (by omega) (by decide) (cC_outer (by omega)) dX0_reached_25 ?_
      refine lv_iload hx hb dX0_reached_26 (lv_at hl 0 rfl) ?_
      refine u_iald C hW (by omega) (cC_d (by omega)) 0 rfl k rfl (by omega) (by decide) dX0_reached_28 ?_
      refine lv_iload_n hx hb dX0_reached_29 rfl (lv_at hl 3 rfl) ?_
      refine lv_icmp_gt (tgt := 40) hx hb dX0_reached_30 (by decide) (fun c30_1 => ?_) (fun c30_1 => ?_)
      · skip
        refine lv_iinc (v := nI (k + 1)) (lv' := [(4, .int (nI (k + 1))), (0, .ref (ad 28)), (1, .int (nI i)), (2, .int r), (3, .int b)]) hx hb dX0_reached_40 hl (k := 0) rfl (nI_1 _) (by decide) rfl (fun ls hl => ?_)
        refine lv_goto (tgt := 5) hx hb dX0_reached_43 (by decide) ?_
        exact ih5  (k + 1) b (by omega) (by have h9 := r5; simp only [lp_s, lp_0, rcF, if_pos c30_1] at h9; exact h9) H locs hW ls (lv_sub hl [0, 1, 2, 3, 4] rfl)
      · skip
        refine lv_iload_n hx hb dX0_reached_33 rfl (lv_at hl 4 rfl) ?_
        refine lv_iconst (v := 1) hx hb dX0_reached_34 (by decide) ?_
        refine lv_iload hx hb dX0_reached_35 (lv_at hl 0 rfl) ?_
        refine lv_ishl hx hb dX0_reached_37 ?_
        refine lv_ior hx hb dX0_reached_38 ?_
        refine lv_istore_n (lv' := [(3, .int (b ||| (1 <<< ((nI k) &&& 31)))), (4, .int (nI k)), (0, .ref (ad 28)), (1, .int (nI i)), (2, .int r)]) hx hb dX0_reached_39 rfl hl (by decide) rfl (fun ls hl => ?_)
        refine lv_iinc (v := nI (k + 1)) (lv' := [(4, .int (nI (k + 1))), (3, .int (b ||| (1 <<< ((nI k) &&& 31)))), (0, .ref (ad 28)), (1, .int (nI i)), (2, .int r)]) hx hb dX0_reached_40 hl (k := 1) rfl (nI_1 _) (by decide) rfl (fun ls hl => ?_)
        refine lv_goto (tgt := 5) hx hb dX0_reached_43 (by decide) ?_
        exact ih5  (k + 1) (b ||| (1 <<< ((nI k) &&& 31))) (by omega) (by have h9 := r5; simp only [lp_s, lp_0, rcF, if_neg c30_1] at h9; exact h9) H locs hW ls (lv_sub hl [0, 2, 3, 4, 1] rfl)
  exact L5 n 0 0 (by omega) rfl H locs hW ls (lv_sub hl [0, 2, 3, 4, 1] rfl)
set_option maxHeartbeats 4000000 in
set_option maxRecDepth 100000 in
theorem c_J6_bitCount_0f7a4 (l : Launch) (D : va_G) (cyI cO cyZ : ClassId) (ad : Nat → Nat) (fa : Nat) (n : Nat) (d md : Nat → Nat → Int32) (go ke ha : Nat → Int32) (wy : Nat → Nat → Int32) (ab be sr : Int32) (x : Int32)  : Ct l yJ6_bitCount_0f7a4 (Cond.code yJ6_bitCount_0f7a4 cJ6_bitCount_0f7a4 1 (some .int) :: wsL_law) ({ frames := 0, cells := 0, slots := 0, locals := 0 } : Room) D (ty3 cyI cO cyZ) 29 ad fa [.int x] (cC cyI cO ad n d md go ke ha wy ab be sr) (cC cyI cO ad n d md go ke ha wy ab be sr) (some (.int (bctV x))) := by
  refine Ct.of (by decide) (Nat.le_of_ble_eq_true rfl) ?_
  intro p e s m args below meth c A C hr H locs hW ls hl
  have C : Cx p s m args meth c cJ6_bitCount_0f7a4 1 RJ6 D (ty3 cyI cO cyZ) fa A := C
  have hx := C.1
  have hb := C.2.1
  have hl : lv_has ls 1 [(0, .int x)] := hl
  refine lv_iload_n hx hb dJ6_bitCount_0f7a4_0 rfl (lv_at hl 0 rfl) ?_
  refine lv_iload_n hx hb dJ6_bitCount_0f7a4_1 rfl (lv_at hl 0 rfl) ?_
  refine lv_iconst (v := 1) hx hb dJ6_bitCount_0f7a4_2 (by decide) ?_
  refine lv_iushr hx hb dJ6_bitCount_0f7a4_3 rfl ?_
  refine lv_ldcw (v := 1431655765) hx hb C.2.2.2.1 (C.2.2.2.2.1 _ mw_507) dJ6_bitCount_0f7a4_4 ?_
  refine lv_iand hx hb dJ6_bitCount_0f7a4_7 ?_
  refine lv_isub hx hb dJ6_bitCount_0f7a4_8 ?_
  refine u_top (show x - ((((x : Int32).toUInt32 >>> ((1 : Int32).toUInt32 &&& Int32.toUInt32 31)).toInt32) &&& 1431655765) = bc1 x from rfl) ?_
  refine lv_istore_n (lv' := [(0, .int (bc1 x))]) hx hb dJ6_bitCount_0f7a4_9 rfl hl (by decide) rfl (fun ls hl => ?_)
  refine lv_iload_n hx hb dJ6_bitCount_0f7a4_10 rfl (lv_at hl 0 rfl) ?_
  refine lv_ldcw (v := 858993459) hx hb C.2.2.2.1 (C.2.2.2.2.1 _ mw_508) dJ6_bitCount_0f7a4_11 ?_
  refine lv_iand hx hb dJ6_bitCount_0f7a4_14 ?_
  refine lv_iload_n hx hb dJ6_bitCount_0f7a4_15 rfl (lv_at hl 0 rfl) ?_
  refine lv_iconst (v := 2) hx hb dJ6_bitCount_0f7a4_16 (by decide) ?_
  refine lv_iushr hx hb dJ6_bitCount_0f7a4_17 rfl ?_
  refine lv_ldcw (v := 858993459) hx hb C.2.2.2.1 (C.2.2.2.2.1 _ mw_508) dJ6_bitCount_0f7a4_18 ?_
  refine lv_iand hx hb dJ6_bitCount_0f7a4_21 ?_
  refine lv_iadd hx hb dJ6_bitCount_0f7a4_22 ?_
  refine u_top (show ((bc1 x) &&& 858993459) + (((((bc1 x) : Int32).toUInt32 >>> ((2 : Int32).toUInt32 &&& Int32.toUInt32 31)).toInt32) &&& 858993459) = bc2 x from rfl) ?_
  refine lv_istore_n (lv' := [(0, .int (bc2 x))]) hx hb dJ6_bitCount_0f7a4_23 rfl hl (by decide) rfl (fun ls hl => ?_)
  refine lv_iload_n hx hb dJ6_bitCount_0f7a4_24 rfl (lv_at hl 0 rfl) ?_
  refine lv_iload_n hx hb dJ6_bitCount_0f7a4_25 rfl (lv_at hl 0 rfl) ?_
  refine lv_iconst (v := 4) hx hb dJ6_bitCount_0f7a4_26 (by decide) ?_
  refine lv_iushr hx hb dJ6_bitCount_0f7a4_27 rfl ?_
  refine lv_iadd hx hb dJ6_bitCount_0f7a4_28 ?_
  refine lv_ldcw (v := 252645135) hx hb C.2.2.2.1 (C.2.2.2.2.1 _ mw_509) dJ6_bitCount_0f7a4_29 ?_
  refine lv_iand hx hb dJ6_bitCount_0f7a4_32 ?_
  refine u_top (show ((bc2 x) + ((((bc2 x) : Int32).toUInt32 >>> ((4 : Int32).toUInt32 &&& Int32.toUInt32 31)).toInt32)) &&& 252645135 = bc3 x from rfl) ?_
  refine lv_istore_n (lv' := [(0, .int (bc3 x))]) hx hb dJ6_bitCount_0f7a4_33 rfl hl (by decide) rfl (fun ls hl => ?_)
  refine lv_iload_n hx hb dJ6_bitCount_0f7a4_34 rfl (lv_at hl 0 rfl) ?_
  refine lv_iload_n hx hb dJ6_bitCount_0f7a4_35 rfl (lv_at hl 0 rfl) ?_
  refine lv_bipush (v := 8) hx hb dJ6_bitCount_0f7a4_36 (by decide) ?_
  refine lv_iushr hx hb dJ6_bitCount_0f7a4_38 rfl ?_
  refine lv_iadd hx hb dJ6_bitCount_0f7a4_39 ?_
  refine u_top (show (bc3 x) + ((((bc3 x) : Int32).toUInt32 >>> ((8 : Int32).toUInt32 &&& Int32.toUInt32 31)).toInt32) = bc4 x from rfl) ?_
  refine lv_istore_n (lv' := [(0, .int (bc4 x))]) hx hb dJ6_bitCount_0f7a4_40 rfl hl (by decide) rfl (fun ls hl => ?_)
  refine lv_iload_n hx hb dJ6_bitCount_0f7a4_41 rfl (lv_at hl 0 rfl) ?_
  refine lv_iload_n hx hb dJ6_bitCount_0f7a4_42 rfl (lv_at hl 0 rfl) ?_
  refine lv_bipush (v := 16) hx hb dJ6_bitCount_0f7a4_43 (by decide) ?_
  refine lv_iushr hx hb dJ6_bitCount_0f7a4_45 rfl ?_
  refine lv_iadd hx hb dJ6_bitCount_0f7a4_46 ?_
  refine u_top (show (bc4 x) + ((((bc4 x) : Int32).toUInt32 >>> ((16 : Int32).toUInt32 &&& Int32.toUInt32 31)).toInt32) = bc5 x from rfl) ?_
  refine lv_istore_n (lv' := [(0, .int (bc5 x))]) hx hb dJ6_bitCount_0f7a4_47 rfl hl (by decide) rfl (fun ls hl => ?_)
  refine lv_iload_n hx hb dJ6_bitCount_0f7a4_48 rfl (lv_at hl 0 rfl) ?_
  refine lv_bipush (v := 63) hx hb dJ6_bitCount_0f7a4_49 (by decide) ?_
  refine lv_iand hx hb dJ6_bitCount_0f7a4_51 ?_
  exact u_iret C hr hW dJ6_bitCount_0f7a4_52 rfl rfl
set_option maxHeartbeats 4000000 in
set_option maxRecDepth 100000 in
theorem c_X0_ordersThatPart (l : Launch) (D : va_G) (cyI cO cyZ : ClassId) (ad : Nat → Nat) (fa : Nat) (n : Nat) (d md : Nat → Nat → Int32) (go ke ha : Nat → Int32) (wy : Nat → Nat → Int32) (ab be sr : Int32) (i j : Nat) (r : Int32) (hn : n ≤ 6) (hi : i < 6) (hj : j < 6) : Ct l yX0_ordersThatPart (Cond.code yX0_ordersThatPart cX0_ordersThatPart 6 (some .int) :: wsL_law) ({ frames := 1, cells := 0, slots := 0, locals := 24 } : Room) D (ty3 cyI cO cyZ) 29 ad fa [.ref (ad 28), .int (nI i), .int (nI j), .int r] (cC cyI cO ad n d md go ke ha wy ab be sr) (cC cyI cO ad n d md go ke ha wy ab be sr) (some (.int (otV n d i j r))) := by
  refine Ct.of (by decide) (Nat.le_of_ble_eq_true rfl) ?_
  intro p e s m args below meth c A C hr H locs hW ls hl
  have C : Cx p s m args meth c cX0_ordersThatPart 6 RX0 D (ty3 cyI cO cyZ) fa A := C
  have hx := C.1
  have hb := C.2.1
  have hl : lv_has ls 6 [(0, .ref (ad 28)), (1, .int (nI i)), (2, .int (nI j)), (3, .int r)] := hl
  refine lv_aload_n hx hb dX0_ordersThatPart_0 rfl (lv_at hl 0 rfl) ?_
  refine lv_iload_n hx hb dX0_ordersThatPart_1 rfl (lv_at hl 1 rfl) ?_
  refine lv_iload_n hx hb dX0_ordersThatPart_2 rfl (lv_at hl 3 rfl) ?_
  refine u_callV (cf' := cC cyI cO ad n d md go ke ha wy ab be sr) (As := [.int (nI i), .int r]) (rest := []) (st1 := [.int (rcV n d i r)]) C hW (c_X0_reached l D cyI cO cyZ ad fa n d md go ke ha wy ab be sr i r (by omega) (by omega)) mv_yX0_reached mw_499 rfl ⟨rfl, rfl, Nat.le_of_ble_eq_true rfl, Nat.le_of_ble_eq_true rfl⟩ (by decide) cC_28 rfl rfl hl (Nat.le_of_ble_eq_true rfl) rfl rfl dX0_ordersThatPart_3 (fun H locs hW => ?_)
  refine lv_aload_n hx hb dX0_ordersThatPart_6 rfl (lv_at hl 0 rfl) ?_
  refine lv_iload_n hx hb dX0_ordersThatPart_7 rfl (lv_at hl 2 rfl) ?_
  refine lv_iload_n hx hb dX0_ordersThatPart_8 rfl (lv_at hl 3 rfl) ?_
  refine u_callV (cf' := cC cyI cO ad n d md go ke ha wy ab be sr) (As := [.int (nI j), .int r]) (rest := [.int (rcV n d i r)]) (st1 := [.int (rcV n d j r), .int (rcV n d i r)]) C hW (c_X0_reached l D cyI cO cyZ ad fa n d md go ke ha wy ab be sr j r (by omega) (by omega)) mv_yX0_reached mw_499 rfl ⟨rfl, rfl, Nat.le_of_ble_eq_true rfl, Nat.le_of_ble_eq_true rfl⟩ (by decide) cC_28 rfl rfl hl (Nat.le_of_ble_eq_true rfl) rfl rfl dX0_ordersThatPart_9 (fun H locs hW => ?_)
  refine lv_ior hx hb dX0_ordersThatPart_12 ?_
  refine u_callS (cf' := cC cyI cO ad n d md go ke ha wy ab be sr) (As := [.int ((rcV n d i r) ||| (rcV n d j r))]) (rest := []) (st1 := [.int (bctV ((rcV n d i r) ||| (rcV n d j r)))]) C hW (c_J6_bitCount_0f7a4 l D cyI cO cyZ ad fa n d md go ke ha wy ab be sr ((rcV n d i r) ||| (rcV n d j r)) ) ms_yJ6_bitCount_0f7a4 mw_503 rfl ⟨rfl, rfl, Nat.le_of_ble_eq_true rfl, Nat.le_of_ble_eq_true rfl⟩ hl (Nat.le_of_ble_eq_true rfl) rfl rfl dX0_ordersThatPart_13 (fun H locs hW => ?_)
  refine lv_istore (lv' := [(4, .int (bctV ((rcV n d i r) ||| (rcV n d j r)))), (0, .ref (ad 28)), (1, .int (nI i)), (2, .int (nI j)), (3, .int r)]) hx hb dX0_ordersThatPart_16 hl (by decide) rfl (fun ls hl => ?_)
  refine lv_aload_n hx hb dX0_ordersThatPart_18 rfl (lv_at hl 1 rfl) ?_
  refine lv_iload_n hx hb dX0_ordersThatPart_19 rfl (lv_at hl 2 rfl) ?_
  refine lv_iload_n hx hb dX0_ordersThatPart_20 rfl (lv_at hl 4 rfl) ?_
  refine u_callV (cf' := cC cyI cO ad n d md go ke ha wy ab be sr) (As := [.int (nI i), .int r]) (rest := []) (st1 := [.int (rcV n d i r)]) C hW (c_X0_reached l D cyI cO cyZ ad fa n d md go ke ha wy ab be sr i r (by omega) (by omega)) mv_yX0_reached mw_499 rfl ⟨rfl, rfl, Nat.le_of_ble_eq_true rfl, Nat.le_of_ble_eq_true rfl⟩ (by decide) cC_28 rfl rfl hl (Nat.le_of_ble_eq_true rfl) rfl rfl dX0_ordersThatPart_21 (fun H locs hW => ?_)
  refine lv_aload_n hx hb dX0_ordersThatPart_24 rfl (lv_at hl 1 rfl) ?_
  refine lv_iload_n hx hb dX0_ordersThatPart_25 rfl (lv_at hl 3 rfl) ?_
  refine lv_iload_n hx hb dX0_ordersThatPart_26 rfl (lv_at hl 4 rfl) ?_
  refine u_callV (cf' := cC cyI cO ad n d md go ke ha wy ab be sr) (As := [.int (nI j), .int r]) (rest := [.int (rcV n d i r)]) (st1 := [.int (rcV n d j r), .int (rcV n d i r)]) C hW (c_X0_reached l D cyI cO cyZ ad fa n d md go ke ha wy ab be sr j r (by omega) (by omega)) mv_yX0_reached mw_499 rfl ⟨rfl, rfl, Nat.le_of_ble_eq_true rfl, Nat.le_of_ble_eq_true rfl⟩ (by decide) cC_28 rfl rfl hl (Nat.le_of_ble_eq_true rfl) rfl rfl dX0_ordersThatPart_27 (fun H locs hW => ?_)
  refine lv_ixor hx hb dX0_ordersThatPart_30 ?_
  refine u_callS (cf' := cC cyI cO ad n d md go ke ha wy ab be sr) (As := [.int ((rcV n d i r) ^^^ (rcV n d j r))]) (rest := []) (st1 := [.int (bctV ((rcV n d i r) ^^^ (rcV n d j r)))]) C hW (c_J6_bitCount_0f7a4 l D cyI cO cyZ ad fa n d md go ke ha wy ab be sr ((rcV n d i r) ^^^ (rcV n d j r)) ) ms_yJ6_bitCount_0f7a4 mw_503 rfl ⟨rfl, rfl, Nat.le_of_ble_eq_true rfl, Nat.le_of_ble_eq_true rfl⟩ hl (Nat.le_of_ble_eq_true rfl) rfl rfl dX0_ordersThatPart_31 (fun H locs hW => ?_)
  refine lv_istore (lv' := [(5, .int (bctV ((rcV n d i r) ^^^ (rcV n d j r)))), (4, .int (bctV ((rcV n d i r) ||| (rcV n d j r)))), (0, .ref (ad 28)), (1, .int (nI i)), (2, .int (nI j)), (3, .int r)]) hx hb dX0_ordersThatPart_34 hl (by decide) rfl (fun ls hl => ?_)
  refine lv_iload hx hb dX0_ordersThatPart_36 (lv_at hl 1 rfl) ?_
  refine lv_if_le (tgt := 54) hx hb dX0_ordersThatPart_38 (by decide) (fun c38_1 => ?_) (fun c38_1 => ?_)
  · skip
    refine lv_iconst (v := 0) hx hb dX0_ordersThatPart_54 (by decide) ?_
    exact u_iret C hr hW dX0_ordersThatPart_55 (by simp only [otV, if_pos c38_1]) rfl
  · skip
    refine lv_aload_n hx hb dX0_ordersThatPart_41 rfl (lv_at hl 2 rfl) ?_
    refine u_callV (cf' := cC cyI cO ad n d md go ke ha wy ab be sr) (As := []) (rest := []) (st1 := [.int (nI (fct n))]) C hW (c_X0_howMany l D cyI cO cyZ ad fa n d md go ke ha wy ab be sr  (by omega)) mv_yX0_howMany mw_510 rfl ⟨rfl, rfl, Nat.le_of_ble_eq_true rfl, Nat.le_of_ble_eq_true rfl⟩ (by decide) cC_28 rfl rfl hl (Nat.le_of_ble_eq_true rfl) rfl rfl dX0_ordersThatPart_42 (fun H locs hW => ?_)
    refine lv_iload hx hb dX0_ordersThatPart_45 (lv_at hl 1 rfl) ?_
    refine lv_idiv hx hb dX0_ordersThatPart_47 (fun h9 => c38_1 (by rw [h9]; decide)) ?_
    refine lv_iload hx hb dX0_ordersThatPart_48 (lv_at hl 0 rfl) ?_
    refine lv_imul hx hb dX0_ordersThatPart_50 ?_
    refine lv_goto (tgt := 55) hx hb dX0_ordersThatPart_51 (by decide) ?_
    exact u_iret C hr hW dX0_ordersThatPart_55 (by simp only [otV, if_neg c38_1]) rfl
set_option maxHeartbeats 4000000 in
set_option maxRecDepth 100000 in
theorem c_X0_nextDealt (l : Launch) (D : va_G) (cyI cO cyZ : ClassId) (ad : Nat → Nat) (fa : Nat) (n : Nat) (d md : Nat → Nat → Int32) (go ke ha : Nat → Int32) (wy : Nat → Nat → Int32) (ab be sr : Int32) (u b ec : Int32) (hn : n ≤ 6) : Ct l yX0_nextDealt (Cond.code yX0_nextDealt cX0_nextDealt 6 (some .int) :: wsL_law) ({ frames := 0, cells := 0, slots := 0, locals := 0 } : Room) D (ty3 cyI cO cyZ) 29 ad fa [.ref (ad 28), .int u, .int b, .int ec] (cC cyI cO ad n d md go ke ha wy ab be sr) (cC cyI cO ad n d md go ke ha wy ab be sr) (some (.int (nI (ndN u ec n 0 b)))) := by
  refine Ct.of (by decide) (Nat.le_of_ble_eq_true rfl) ?_
  intro p e s m args below meth c A C hr H locs hW ls hl
  have C : Cx p s m args meth c cX0_nextDealt 6 RX0 D (ty3 cyI cO cyZ) fa A := C
  have hx := C.1
  have hb := C.2.1
  have hl : lv_has ls 6 [(0, .ref (ad 28)), (1, .int u), (2, .int b), (3, .int ec)] := hl
  refine lv_iload_n hx hb dX0_nextDealt_0 rfl (lv_at hl 2 rfl) ?_
  refine lv_istore (lv' := [(4, .int b), (0, .ref (ad 28)), (1, .int u), (2, .int b), (3, .int ec)]) hx hb dX0_nextDealt_1 hl (by decide) rfl (fun ls hl => ?_)
  refine lv_iconst (v := 0) hx hb dX0_nextDealt_3 (by decide) ?_
  refine lv_istore (lv' := [(5, .int 0), (4, .int b), (0, .ref (ad 28)), (1, .int u), (2, .int b), (3, .int ec)]) hx hb dX0_nextDealt_4 hl (by decide) rfl (fun ls hl => ?_)
  have L6 : ∀ (k6 : Nat) (q : Nat) (tp : Int32), q + k6 = n → ndN u ec k6 q tp = ndN u ec n 0 b → ∀ (H : Heap) (locs : List Loc), Wd D 29 ad (cC cyI cO ad n d md go ke ha wy ab be sr) A s.heap H locs → ∀ ls : Array Slot, lv_has ls 6 [(5, .int (nI q)), (0, .ref (ad 28)), (1, .int u), (3, .int ec), (4, .int tp)] → W p l e ({ frames := 0, cells := 0, slots := 0, locals := 0 } : Room) s m args below meth c H locs 0 0 (MQ below (uQ D 29 ad (cC cyI cO ad n d md go ke ha wy ab be sr) (some (.int (nI (ndN u ec n 0 b)))) A) args s 0 0 A) (F0 m 6 ls []) := by
    intro k6
    induction k6 with
    | zero =>
      intro q tp hq r6 H locs hW ls hl
      refine lv_iload hx hb dX0_nextDealt_6 (lv_at hl 0 rfl) ?_
      refine lv_aload_n hx hb dX0_nextDealt_8 rfl (lv_at hl 1 rfl) ?_
      refine u_get C hW inlX0 (by decide) cC_28 rfl 0 (by decide) mw_57 rfl dX0_nextDealt_9 ?_
      refine u_getN C hW inlX3 (by decide) cC_1 rfl 2 (by decide) (List.mem_of_getElem? (i := 6) rfl) rfl dX0_nextDealt_12 ?_
      refine lv_icmp_ge (tgt := 49) hx hb dX0_nextDealt_15 (by decide) (fun _ => ?_) (fun c9 => absurd (nI_le (by omega) (by omega)) c9)
      refine lv_iconst (v := 0) hx hb dX0_nextDealt_49 (by decide) ?_
      exact u_iret C hr hW dX0_nextDealt_50 (by have h9 := r6; simp only [ndN] at h9; first | (rw [← h9]; done) | (rw [← h9]; exact nI_0.symm)) rfl
    | succ k6 ih6 =>
      intro q tp hq r6 H locs hW ls hl
      refine lv_iload hx hb dX0_nextDealt_6 (lv_at hl 0 rfl) ?_
      refine lv_aload_n hx hb dX0_nextDealt_8 rfl (lv_at hl 1 rfl) ?_
      refine u_get C hW inlX0 (by decide) cC_28 rfl 0 (by decide) mw_57 rfl dX0_nextDealt_9 ?_
      refine u_getN C hW inlX3 (by decide) cC_1 rfl 2 (by decide) (List.mem_of_getElem? (i := 6) rfl) rfl dX0_nextDealt_12 ?_
      refine lv_icmp_ge (tgt := 49) hx hb dX0_nextDealt_15 (by decide) (fun c9 => absurd c9 (nI_ge (by omega) (by omega))) (fun _ => ?_)
      refine lv_iload_n hx hb dX0_nextDealt_18 rfl (lv_at hl 2 rfl) ?_
      refine lv_iload hx hb dX0_nextDealt_19 (lv_at hl 0 rfl) ?_
      refine lv_ishr hx hb dX0_nextDealt_21 ?_
      refine lv_iconst (v := 1) hx hb dX0_nextDealt_22 (by decide) ?_
      refine lv_iand hx hb dX0_nextDealt_23 ?_
      refine lv_iconst (v := 1) hx hb dX0_nextDealt_24 (by decide) ?_
      refine lv_icmp_ne (tgt := 43) hx hb dX0_nextDealt_25 (by decide) (fun c25_1 => ?_) (fun c25_1 => ?_)
      · skip
        refine lv_iinc (v := nI (q + 1)) (lv' := [(5, .int (nI (q + 1))), (0, .ref (ad 28)), (1, .int u), (3, .int ec), (4, .int tp)]) hx hb dX0_nextDealt_43 hl (k := 0) rfl (nI_1 _) (by decide) rfl (fun ls hl => ?_)
        refine lv_goto (tgt := 6) hx hb dX0_nextDealt_46 (by decide) ?_
        exact ih6  (q + 1) tp (by omega) (by have h9 := r6; simp only [lp_s, lp_0, ndN, if_neg c25_1] at h9; exact h9) H locs hW ls (lv_sub hl [0, 1, 2, 3, 4] rfl)
      · skip
        refine lv_iload hx hb dX0_nextDealt_28 (lv_at hl 4 rfl) ?_
        refine lv_iload_n hx hb dX0_nextDealt_30 rfl (lv_at hl 3 rfl) ?_
        refine lv_icmp_ge (tgt := 37) hx hb dX0_nextDealt_31 (by decide) (fun c31_2 => ?_) (fun c31_2 => ?_)
        · skip
          refine lv_iload hx hb dX0_nextDealt_37 (lv_at hl 4 rfl) ?_
          refine lv_iload_n hx hb dX0_nextDealt_39 rfl (lv_at hl 3 rfl) ?_
          refine lv_isub hx hb dX0_nextDealt_40 ?_
          refine lv_istore (lv' := [(4, .int (tp - ec)), (5, .int (nI q)), (0, .ref (ad 28)), (1, .int u), (3, .int ec)]) hx hb dX0_nextDealt_41 hl (by decide) rfl (fun ls hl => ?_)
          refine lv_iinc (v := nI (q + 1)) (lv' := [(5, .int (nI (q + 1))), (4, .int (tp - ec)), (0, .ref (ad 28)), (1, .int u), (3, .int ec)]) hx hb dX0_nextDealt_43 hl (k := 1) rfl (nI_1 _) (by decide) rfl (fun ls hl => ?_)
          refine lv_goto (tgt := 6) hx hb dX0_nextDealt_46 (by decide) ?_
          exact ih6  (q + 1) (tp - ec) (by omega) (by have h9 := r6; simp only [lp_s, lp_0, ndN, if_pos c25_1, if_pos c31_2] at h9; exact h9) H locs hW ls (lv_sub hl [0, 2, 3, 4, 1] rfl)
        · skip
          refine lv_iload hx hb dX0_nextDealt_34 (lv_at hl 0 rfl) ?_
          exact u_iret C hr hW dX0_nextDealt_36 (by have h9 := r6; simp only [ndN, if_pos c25_1, if_neg c31_2] at h9; first | (rw [← h9]; done) | (rw [← h9]; exact nI_0.symm)) rfl
  exact L6 n 0 b (by omega) rfl H locs hW ls (lv_sub hl [0, 2, 3, 5, 1] rfl)
set_option maxHeartbeats 4000000 in
set_option maxRecDepth 100000 in
theorem c_X0_firstWithin (l : Launch) (D : va_G) (cyI cO cyZ : ClassId) (ad : Nat → Nat) (fa : Nat) (n : Nat) (d md : Nat → Nat → Int32) (go ke ha : Nat → Int32) (wy : Nat → Nat → Int32) (ab be sr : Int32) (i lo : Nat) (r : Int32) (hn : n ≤ 6) (h2 : 2 ≤ n) (hi : i < 6) : Ct l yX0_firstWithin (Cond.code yX0_firstWithin cX0_firstWithin 9 (some .int) :: wsL_law) ({ frames := 1, cells := 0, slots := 0, locals := 25 } : Room) D (ty3 cyI cO cyZ) 29 ad fa [.ref (ad 28), .int (nI i), .int (nI lo), .int r] (cC cyI cO ad n d md go ke ha wy ab be sr) (cC cyI cO ad n d md go ke ha wy ab be sr) (some (.int (nI (fwD n d i r n (nI (2 ^ n - 1)) (nI lo))))) := by
  refine Ct.of (by decide) (Nat.le_of_ble_eq_true rfl) ?_
  intro p e s m args below meth c A C hr H locs hW ls hl
  have C : Cx p s m args meth c cX0_firstWithin 9 RX0 D (ty3 cyI cO cyZ) fa A := C
  have hx := C.1
  have hb := C.2.1
  have hl : lv_has ls 9 [(0, .ref (ad 28)), (1, .int (nI i)), (2, .int (nI lo)), (3, .int r)] := hl
  refine lv_iconst (v := 1) hx hb dX0_firstWithin_0 (by decide) ?_
  refine lv_aload_n hx hb dX0_firstWithin_1 rfl (lv_at hl 0 rfl) ?_
  refine u_get C hW inlX0 (by decide) cC_28 rfl 0 (by decide) mw_57 rfl dX0_firstWithin_2 ?_
  refine u_getN C hW inlX3 (by decide) cC_1 rfl 2 (by decide) (List.mem_of_getElem? (i := 6) rfl) rfl dX0_firstWithin_5 ?_
  refine lv_ishl hx hb dX0_firstWithin_8 ?_
  refine u_top (show 1 <<< ((nI n) &&& 31) = nI (2 ^ n) from shl1 hn) ?_
  refine lv_iconst (v := 1) hx hb dX0_firstWithin_9 (by decide) ?_
  refine lv_isub hx hb dX0_firstWithin_10 ?_
  refine u_top (show (nI (2 ^ n)) - 1 = nI (2 ^ n - 1) from pk_sub Nat.one_le_two_pow) ?_
  refine lv_istore (lv' := [(4, .int (nI (2 ^ n - 1))), (0, .ref (ad 28)), (1, .int (nI i)), (2, .int (nI lo)), (3, .int r)]) hx hb dX0_firstWithin_11 hl (by decide) rfl (fun ls hl => ?_)
  refine lv_iload_n hx hb dX0_firstWithin_13 rfl (lv_at hl 3 rfl) ?_
  refine lv_istore (lv' := [(5, .int (nI lo)), (4, .int (nI (2 ^ n - 1))), (0, .ref (ad 28)), (1, .int (nI i)), (2, .int (nI lo)), (3, .int r)]) hx hb dX0_firstWithin_14 hl (by decide) rfl (fun ls hl => ?_)
  refine lv_aload_n hx hb dX0_firstWithin_16 rfl (lv_at hl 2 rfl) ?_
  refine u_get C hW inlX0 (by decide) cC_28 rfl 0 (by decide) mw_57 rfl dX0_firstWithin_17 ?_
  refine u_getN C hW inlX3 (by decide) cC_1 rfl 2 (by decide) (List.mem_of_getElem? (i := 6) rfl) rfl dX0_firstWithin_20 ?_
  refine lv_iconst (v := 1) hx hb dX0_firstWithin_23 (by decide) ?_
  refine lv_isub hx hb dX0_firstWithin_24 ?_
  refine u_top (show (nI n) - 1 = nI n - 1 from rfl) ?_
  refine lv_istore (lv' := [(6, .int (nI n - 1)), (5, .int (nI lo)), (4, .int (nI (2 ^ n - 1))), (0, .ref (ad 28)), (1, .int (nI i)), (2, .int (nI lo)), (3, .int r)]) hx hb dX0_firstWithin_25 hl (by decide) rfl (fun ls hl => ?_)
  have L27 : ∀ (k27 : Nat) (u : Int32) (lf : Int32), k27 ≤ n → fwD n d i r k27 u lf = fwD n d i r n (nI (2 ^ n - 1)) (nI lo) → ∀ (H : Heap) (locs : List Loc), Wd D 29 ad (cC cyI cO ad n d md go ke ha wy ab be sr) A s.heap H locs → ∀ ls : Array Slot, lv_has ls 9 [(0, .ref (ad 28)), (1, .int (nI i)), (3, .int r), (4, .int u), (5, .int lf), (6, .int (nI k27 - 1))] → W p l e ({ frames := 1, cells := 0, slots := 0, locals := 25 } : Room) s m args below meth c H locs 0 0 (MQ below (uQ D 29 ad (cC cyI cO ad n d md go ke ha wy ab be sr) (some (.int (nI (fwD n d i r n (nI (2 ^ n - 1)) (nI lo))))) A) args s 0 0 A) (F0 m 27 ls []) := by
    intro k27
    induction k27 with
    | zero =>
      intro u lf hk r27 H locs hW ls hl
      refine lv_iload hx hb dX0_firstWithin_27 (lv_at hl 5 rfl) ?_
      refine lv_if_lt (tgt := 108) hx hb dX0_firstWithin_29 (by decide) (fun _ => ?_) (fun c9 => absurd (by decide) c9)
      refine lv_iload_n hx hb dX0_firstWithin_108 rfl (lv_at hl 1 rfl) ?_
      exact u_iret C hr hW dX0_firstWithin_109 (by have h9 := r27; simp only [fwD] at h9; rw [← h9]) rfl
    | succ k27 ih27 =>
      intro u lf hk r27 H locs hW ls hl
      rw [show nI (k27 + 1) - 1 = nI k27 from nI_pred k27] at hl
      have hua := ndN_lt u (nI (fct k27)) lf h2
      refine lv_iload hx hb dX0_firstWithin_27 (lv_at hl 5 rfl) ?_
      refine lv_if_lt (tgt := 108) hx hb dX0_firstWithin_29 (by decide) (fun c9 => absurd c9 (nI_pos (by omega))) (fun _ => ?_)
      refine va_getsN hx hb C.2.2.2.2.2.2.2.2.2.1 hW.2.2 C.2.2.2.1 (va_Nw.use rfl (C.2.2.2.2.2.2.1 _ (List.mem_of_getElem? (i := 5) rfl))) (fun _ h => h) dX0_firstWithin_32 ?_
      refine lv_iload hx hb dX0_firstWithin_35 (lv_at hl 5 rfl) ?_
      refine va_ti hx hb C.2.2.2.2.2.2.2.2.2.2 hW.2.2 (vp_in_nI (n := k27) (by omega) (by decide)) (v := .int (nI (fct k27))) (facV_n (by omega)) dX0_firstWithin_37 ?_
      refine lv_istore (lv' := [(7, .int (nI (fct k27))), (0, .ref (ad 28)), (1, .int (nI i)), (3, .int r), (4, .int u), (5, .int lf), (6, .int (nI k27))]) hx hb dX0_firstWithin_38 hl (by decide) rfl (fun ls hl => ?_)
      refine lv_aload_n hx hb dX0_firstWithin_40 rfl (lv_at hl 1 rfl) ?_
      refine lv_iload hx hb dX0_firstWithin_41 (lv_at hl 4 rfl) ?_
      refine lv_iload hx hb dX0_firstWithin_43 (lv_at hl 5 rfl) ?_
      refine lv_iload hx hb dX0_firstWithin_45 (lv_at hl 0 rfl) ?_
      refine u_callV (cf' := cC cyI cO ad n d md go ke ha wy ab be sr) (As := [.int u, .int lf, .int (nI (fct k27))]) (rest := []) (st1 := [.int (nI (ndN u (nI (fct k27)) n 0 lf))]) C hW (c_X0_nextDealt l D cyI cO cyZ ad fa n d md go ke ha wy ab be sr u lf (nI (fct k27)) (by omega)) mv_yX0_nextDealt mw_539 rfl ⟨rfl, rfl, Nat.le_of_ble_eq_true rfl, Nat.le_of_ble_eq_true rfl⟩ (by decide) cC_28 rfl rfl hl (Nat.le_of_ble_eq_true rfl) rfl rfl dX0_firstWithin_47 (fun H locs hW => ?_)
      refine lv_istore (lv' := [(8, .int (nI (ndN u (nI (fct k27)) n 0 lf))), (7, .int (nI (fct k27))), (0, .ref (ad 28)), (1, .int (nI i)), (3, .int r), (4, .int u), (5, .int lf), (6, .int (nI k27))]) hx hb dX0_firstWithin_50 hl (by decide) rfl (fun ls hl => ?_)
      refine lv_aload_n hx hb dX0_firstWithin_52 rfl (lv_at hl 2 rfl) ?_
      refine u_get C hW inlX0 (by decide) cC_28 rfl 0 (by decide) mw_57 rfl dX0_firstWithin_53 ?_
      refine u_getN C hW inlX3 (by decide) cC_1 rfl 0 (by decide) (List.mem_of_getElem? (i := 7) rfl) rfl dX0_firstWithin_56 ?_
      refine lv_iload_n hx hb dX0_firstWithin_59 rfl (lv_at hl 3 rfl) ?_
      refine u_aald C hW (by decide) cC_2 1 rfl i rfl (by omega) (by decide) (cC_outer (by omega)) dX0_firstWithin_60 ?_
      refine lv_iload hx hb dX0_firstWithin_61 (lv_at hl 0 rfl) ?_
      refine u_iald C hW (by omega) (cC_d (by omega)) 0 rfl (ndN u (nI (fct k27)) n 0 lf) rfl (by omega) (by decide) dX0_firstWithin_63 ?_
      refine lv_iload_n hx hb dX0_firstWithin_64 rfl (lv_at hl 4 rfl) ?_
      refine lv_icmp_gt (tgt := 71) hx hb dX0_firstWithin_65 (by decide) (fun c65_1 => ?_) (fun c65_1 => ?_)
      · skip
        refine lv_iload hx hb dX0_firstWithin_71 (lv_at hl 6 rfl) ?_
        refine lv_iload hx hb dX0_firstWithin_73 (lv_at hl 1 rfl) ?_
        refine lv_iload hx hb dX0_firstWithin_75 (lv_at hl 5 rfl) ?_
        refine lv_iconst (v := 1) hx hb dX0_firstWithin_77 (by decide) ?_
        refine lv_iload hx hb dX0_firstWithin_78 (lv_at hl 0 rfl) ?_
        refine lv_ishl hx hb dX0_firstWithin_80 ?_
        refine lv_iconst (v := 1) hx hb dX0_firstWithin_81 (by decide) ?_
        refine lv_isub hx hb dX0_firstWithin_82 ?_
        refine lv_iand hx hb dX0_firstWithin_83 ?_
        refine u_callS (cf' := cC cyI cO ad n d md go ke ha wy ab be sr) (As := [.int (u &&& ((1 <<< ((nI (ndN u (nI (fct k27)) n 0 lf)) &&& 31)) - 1))]) (rest := [.int (nI (fct k27)), .int lf]) (st1 := [.int (bctV (u &&& ((1 <<< ((nI (ndN u (nI (fct k27)) n 0 lf)) &&& 31)) - 1))), .int (nI (fct k27)), .int lf]) C hW (c_J6_bitCount_0f7a4 l D cyI cO cyZ ad fa n d md go ke ha wy ab be sr (u &&& ((1 <<< ((nI (ndN u (nI (fct k27)) n 0 lf)) &&& 31)) - 1)) ) ms_yJ6_bitCount_0f7a4 mw_503 rfl ⟨rfl, rfl, Nat.le_of_ble_eq_true rfl, Nat.le_of_ble_eq_true rfl⟩ hl (Nat.le_of_ble_eq_true rfl) rfl rfl dX0_firstWithin_84 (fun H locs hW => ?_)
        refine lv_imul hx hb dX0_firstWithin_87 ?_
        refine lv_isub hx hb dX0_firstWithin_88 ?_
        refine lv_istore (lv' := [(5, .int (lf - ((nI (fct k27)) * (bctV (u &&& ((1 <<< ((nI (ndN u (nI (fct k27)) n 0 lf)) &&& 31)) - 1)))))), (8, .int (nI (ndN u (nI (fct k27)) n 0 lf))), (7, .int (nI (fct k27))), (0, .ref (ad 28)), (1, .int (nI i)), (3, .int r), (4, .int u), (6, .int (nI k27))]) hx hb dX0_firstWithin_89 hl (by decide) rfl (fun ls hl => ?_)
        refine lv_iload hx hb dX0_firstWithin_91 (lv_at hl 6 rfl) ?_
        refine lv_iconst (v := 1) hx hb dX0_firstWithin_93 (by decide) ?_
        refine lv_iload hx hb dX0_firstWithin_94 (lv_at hl 1 rfl) ?_
        refine lv_ishl hx hb dX0_firstWithin_96 ?_
        refine lv_iconst (v := -1) hx hb dX0_firstWithin_97 (by decide) ?_
        refine lv_ixor hx hb dX0_firstWithin_98 ?_
        refine lv_iand hx hb dX0_firstWithin_99 ?_
        refine u_top (show u &&& ((1 <<< ((nI (ndN u (nI (fct k27)) n 0 lf)) &&& 31)) ^^^ (-1)) = clr u (ndN u (nI (fct k27)) n 0 lf) from rfl) ?_
        refine lv_istore (lv' := [(4, .int (clr u (ndN u (nI (fct k27)) n 0 lf))), (5, .int (lf - ((nI (fct k27)) * (bctV (u &&& ((1 <<< ((nI (ndN u (nI (fct k27)) n 0 lf)) &&& 31)) - 1)))))), (8, .int (nI (ndN u (nI (fct k27)) n 0 lf))), (7, .int (nI (fct k27))), (0, .ref (ad 28)), (1, .int (nI i)), (3, .int r), (6, .int (nI k27))]) hx hb dX0_firstWithin_100 hl (by decide) rfl (fun ls hl => ?_)
        refine lv_iinc (v := nI k27 - 1) (lv' := [(6, .int (nI k27 - 1)), (4, .int (clr u (ndN u (nI (fct k27)) n 0 lf))), (5, .int (lf - ((nI (fct k27)) * (bctV (u &&& ((1 <<< ((nI (ndN u (nI (fct k27)) n 0 lf)) &&& 31)) - 1)))))), (8, .int (nI (ndN u (nI (fct k27)) n 0 lf))), (7, .int (nI (fct k27))), (0, .ref (ad 28)), (1, .int (nI i)), (3, .int r)]) hx hb dX0_firstWithin_102 hl (k := 7) rfl (nI_dn k27) (by decide) rfl (fun ls hl => ?_)
        refine lv_goto (tgt := 27) hx hb dX0_firstWithin_105 (by decide) ?_
        exact ih27  (clr u (ndN u (nI (fct k27)) n 0 lf)) (lf - ((nI (fct k27)) * (bctV (u &&& ((1 <<< ((nI (ndN u (nI (fct k27)) n 0 lf)) &&& 31)) - 1))))) (by omega) (by have h9 := r27; simp only [fwD, if_pos c65_1] at h9; exact h9) H locs hW ls (lv_sub hl [5, 6, 7, 1, 2, 0] rfl)
      · skip
        refine lv_iload hx hb dX0_firstWithin_68 (lv_at hl 0 rfl) ?_
        exact u_iret C hr hW dX0_firstWithin_70 (by have h9 := r27; simp only [fwD, if_neg c65_1] at h9; rw [← h9]) rfl
  exact L27 n (nI (2 ^ n - 1)) (nI lo) (by omega) rfl H locs hW ls (lv_sub hl [3, 4, 6, 2, 1, 0] rfl)
