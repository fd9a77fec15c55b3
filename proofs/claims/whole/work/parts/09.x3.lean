set_option maxHeartbeats 4000000 in
set_option maxRecDepth 100000 in
theorem c_fillR (l : Launch) (D : va_G) (cyI cO cyZ : ClassId) (ad : Nat → Nat) (fa : Nat) (n : Nat) (d md : Nat → Nat → Int32) (go ke ha : Nat → Int32) (wy : Nat → Nat → Int32) (ab be sr : Int32) (i : Nat) (v : Int32) (hi : i < 6) : Ct l yJ7_fill_53178 (Cond.code yJ7_fill_53178 cJ7_fill_53178 4 none :: wsL_law) ({ frames := 0, cells := 0, slots := 0, locals := 0 } : Room) D (ty3 cyI cO cyZ) 29 ad fa [.ref (ad (3 + i)), .int v] (cC cyI cO ad n d md go ke ha wy ab be sr) (cC cyI cO ad n (fillR d i v) md go ke ha wy ab be sr) (none) := by
  refine Ct.of (by decide) (Nat.le_of_ble_eq_true rfl) ?_
  intro p e s m args below meth c A C hr H locs hW ls hl
  have C : Cx p s m args meth c cJ7_fill_53178 4 RJ7 D (ty3 cyI cO cyZ) fa A := C
  have hx := C.1
  have hb := C.2.1
  have hl : lv_has ls 4 [(0, .ref (ad (3 + i))), (1, .int v)] := hl
  refine lv_iconst (v := 0) hx hb dJ7_fill_53178_0 (by decide) ?_
  refine lv_istore_n (lv' := [(2, .int 0), (0, .ref (ad (3 + i))), (1, .int v)]) hx hb dJ7_fill_53178_1 rfl hl (by decide) rfl (fun ls hl => ?_)
  refine lv_aload_n hx hb dJ7_fill_53178_2 rfl (lv_at hl 1 rfl) ?_
  refine u_alen C hW (by omega) (cC_d (by omega)) 0 rfl dJ7_fill_53178_3 ?_
  refine lv_istore_n (lv' := [(3, .int (nI 6)), (2, .int 0), (0, .ref (ad (3 + i))), (1, .int v)]) hx hb dJ7_fill_53178_4 rfl hl (by decide) rfl (fun ls hl => ?_)
  have L5 : ∀ (k5 : Nat) (j : Nat) (dd : Nat → Nat → Int32), j + k5 = 6 → lp (fun dd j => u2 dd i j v) j k5 dd = fillR d i v → ∀ (H : Heap) (locs : List Loc), Wd D 29 ad (cC cyI cO ad n dd md go ke ha wy ab be sr) A s.heap H locs → ∀ ls : Array Slot, lv_has ls 4 [(2, .int (nI j)), (0, .ref (ad (3 + i))), (1, .int v), (3, .int (nI 6))] → W p l e ({ frames := 0, cells := 0, slots := 0, locals := 0 } : Room) s m args below meth c H locs 0 0 (MQ below (uQ D 29 ad (cC cyI cO ad n (fillR d i v) md go ke ha wy ab be sr) (none) A) args s 0 0 A) (F0 m 5 ls []) := by
    intro k5
    induction k5 with
    | zero =>
      intro j dd hj r5 H locs hW ls hl
      refine lv_iload_n hx hb dJ7_fill_53178_5 rfl (lv_at hl 0 rfl) ?_
      refine lv_iload_n hx hb dJ7_fill_53178_6 rfl (lv_at hl 3 rfl) ?_
      refine lv_icmp_ge (tgt := 20) hx hb dJ7_fill_53178_7 (by decide) (fun _ => ?_) (fun c9 => absurd (show nI 6 ≤ nI j from nI_le (by omega) (by omega)) c9)
      exact u_vret C hr hW dJ7_fill_53178_20 (by rw [← r5]; rfl)
    | succ k5 ih5 =>
      intro j dd hj r5 H locs hW ls hl
      refine lv_iload_n hx hb dJ7_fill_53178_5 rfl (lv_at hl 0 rfl) ?_
      refine lv_iload_n hx hb dJ7_fill_53178_6 rfl (lv_at hl 3 rfl) ?_
      refine lv_icmp_ge (tgt := 20) hx hb dJ7_fill_53178_7 (by decide) (fun c9 => absurd c9 (show ¬ nI 6 ≤ nI j from nI_ge (by omega) (by omega))) (fun _ => ?_)
      refine lv_aload_n hx hb dJ7_fill_53178_10 rfl (lv_at hl 1 rfl) ?_
      refine lv_iload_n hx hb dJ7_fill_53178_11 rfl (lv_at hl 0 rfl) ?_
      refine lv_iload_n hx hb dJ7_fill_53178_12 rfl (lv_at hl 2 rfl) ?_
      refine u_iast (cf' := cC cyI cO ad n (u2 dd i j v) md go ke ha wy ab be sr) C hW (by omega) (cC_d (by omega)) 0 rfl j rfl (by omega) (by decide) (cC_sd (by omega)) dJ7_fill_53178_13 (fun H locs hW => ?_)
      refine lv_iinc (v := nI (j + 1)) (lv' := [(2, .int (nI (j + 1))), (0, .ref (ad (3 + i))), (1, .int v), (3, .int (nI 6))]) hx hb dJ7_fill_53178_14 hl (k := 0) rfl (nI_1 _) (by decide) rfl (fun ls hl => ?_)
      refine lv_goto (tgt := 5) hx hb dJ7_fill_53178_17 (by decide) ?_
      exact ih5  (j + 1) (u2 dd i j v) (by omega) r5 H locs hW ls (lv_sub hl [0, 1, 2, 3] rfl)
  exact L5 6 0 d (by omega) rfl H locs hW ls (lv_sub hl [1, 2, 3, 0] rfl)
set_option maxHeartbeats 4000000 in
set_option maxRecDepth 100000 in
theorem c_fillA (l : Launch) (D : va_G) (cyI cO cyZ : ClassId) (ad : Nat → Nat) (fa : Nat) (n : Nat) (d md : Nat → Nat → Int32) (go ke ha : Nat → Int32) (wy : Nat → Nat → Int32) (ab be sr : Int32) (v : Int32)  : Ct l yJ7_fill_53178 (Cond.code yJ7_fill_53178 cJ7_fill_53178 4 none :: wsL_law) ({ frames := 0, cells := 0, slots := 0, locals := 0 } : Room) D (ty3 cyI cO cyZ) 29 ad fa [.ref (ad 19), .int v] (cC cyI cO ad n d md go ke ha wy ab be sr) (cC cyI cO ad n d md go ke (fillA ha v) wy ab be sr) (none) := by
  refine Ct.of (by decide) (Nat.le_of_ble_eq_true rfl) ?_
  intro p e s m args below meth c A C hr H locs hW ls hl
  have C : Cx p s m args meth c cJ7_fill_53178 4 RJ7 D (ty3 cyI cO cyZ) fa A := C
  have hx := C.1
  have hb := C.2.1
  have hl : lv_has ls 4 [(0, .ref (ad 19)), (1, .int v)] := hl
  refine lv_iconst (v := 0) hx hb dJ7_fill_53178_0 (by decide) ?_
  refine lv_istore_n (lv' := [(2, .int 0), (0, .ref (ad 19)), (1, .int v)]) hx hb dJ7_fill_53178_1 rfl hl (by decide) rfl (fun ls hl => ?_)
  refine lv_aload_n hx hb dJ7_fill_53178_2 rfl (lv_at hl 1 rfl) ?_
  refine u_alen C hW (by decide) cC_19 0 rfl dJ7_fill_53178_3 ?_
  refine lv_istore_n (lv' := [(3, .int (nI 6)), (2, .int 0), (0, .ref (ad 19)), (1, .int v)]) hx hb dJ7_fill_53178_4 rfl hl (by decide) rfl (fun ls hl => ?_)
  have L5 : ∀ (k5 : Nat) (j : Nat) (hh : Nat → Int32), j + k5 = 6 → lp (fun g j => upd g j v) j k5 hh = fillA ha v → ∀ (H : Heap) (locs : List Loc), Wd D 29 ad (cC cyI cO ad n d md go ke hh wy ab be sr) A s.heap H locs → ∀ ls : Array Slot, lv_has ls 4 [(2, .int (nI j)), (0, .ref (ad 19)), (1, .int v), (3, .int (nI 6))] → W p l e ({ frames := 0, cells := 0, slots := 0, locals := 0 } : Room) s m args below meth c H locs 0 0 (MQ below (uQ D 29 ad (cC cyI cO ad n d md go ke (fillA ha v) wy ab be sr) (none) A) args s 0 0 A) (F0 m 5 ls []) := by
    intro k5
    induction k5 with
    | zero =>
      intro j hh hj r5 H locs hW ls hl
      refine lv_iload_n hx hb dJ7_fill_53178_5 rfl (lv_at hl 0 rfl) ?_
      refine lv_iload_n hx hb dJ7_fill_53178_6 rfl (lv_at hl 3 rfl) ?_
      refine lv_icmp_ge (tgt := 20) hx hb dJ7_fill_53178_7 (by decide) (fun _ => ?_) (fun c9 => absurd (show nI 6 ≤ nI j from nI_le (by omega) (by omega)) c9)
      exact u_vret C hr hW dJ7_fill_53178_20 (by rw [← r5]; rfl)
    | succ k5 ih5 =>
      intro j hh hj r5 H locs hW ls hl
      refine lv_iload_n hx hb dJ7_fill_53178_5 rfl (lv_at hl 0 rfl) ?_
      refine lv_iload_n hx hb dJ7_fill_53178_6 rfl (lv_at hl 3 rfl) ?_
      refine lv_icmp_ge (tgt := 20) hx hb dJ7_fill_53178_7 (by decide) (fun c9 => absurd c9 (show ¬ nI 6 ≤ nI j from nI_ge (by omega) (by omega))) (fun _ => ?_)
      refine lv_aload_n hx hb dJ7_fill_53178_10 rfl (lv_at hl 1 rfl) ?_
      refine lv_iload_n hx hb dJ7_fill_53178_11 rfl (lv_at hl 0 rfl) ?_
      refine lv_iload_n hx hb dJ7_fill_53178_12 rfl (lv_at hl 2 rfl) ?_
      refine u_iast (cf' := cC cyI cO ad n d md go ke (upd hh j v) wy ab be sr) C hW (by decide) cC_19 0 rfl j rfl (by omega) (by decide) cC_s19 dJ7_fill_53178_13 (fun H locs hW => ?_)
      refine lv_iinc (v := nI (j + 1)) (lv' := [(2, .int (nI (j + 1))), (0, .ref (ad 19)), (1, .int v), (3, .int (nI 6))]) hx hb dJ7_fill_53178_14 hl (k := 0) rfl (nI_1 _) (by decide) rfl (fun ls hl => ?_)
      refine lv_goto (tgt := 5) hx hb dJ7_fill_53178_17 (by decide) ?_
      exact ih5  (j + 1) (upd hh j v) (by omega) r5 H locs hW ls (lv_sub hl [0, 1, 2, 3] rfl)
  exact L5 6 0 ha (by omega) rfl H locs hW ls (lv_sub hl [1, 2, 3, 0] rfl)
set_option maxHeartbeats 4000000 in
set_option maxRecDepth 100000 in
theorem c_X3_begin (l : Launch) (D : va_G) (cyI cO cyZ : ClassId) (ad : Nat → Nat) (fa : Nat) (n : Nat) (d md : Nat → Nat → Int32) (go ke ha : Nat → Int32) (wy : Nat → Nat → Int32) (ab be sr : Int32) (np : Nat)  : Ct l yX3_begin (Cond.code yX3_begin cX3_begin 3 none :: wsL_law) ({ frames := 1, cells := 0, slots := 0, locals := 23 } : Room) D (ty3 cyI cO cyZ) 29 ad fa [.ref (ad 1), .int (nI np)] (cC cyI cO ad n d md go ke ha wy ab be sr) (cC cyI cO ad np (beginV d) md go ke ha wy ab be sr) (none) := by
  refine Ct.of (by decide) (Nat.le_of_ble_eq_true rfl) ?_
  intro p e s m args below meth c A C hr H locs hW ls hl
  have C : Cx p s m args meth c cX3_begin 3 RX3 D (ty3 cyI cO cyZ) fa A := C
  have hx := C.1
  have hb := C.2.1
  have hl : lv_has ls 3 [(0, .ref (ad 1)), (1, .int (nI np))] := hl
  refine lv_aload_n hx hb dX3_begin_0 rfl (lv_at hl 0 rfl) ?_
  refine lv_iload_n hx hb dX3_begin_1 rfl (lv_at hl 1 rfl) ?_
  refine u_put (cf' := cC cyI cO ad np d md go ke ha wy ab be sr) C hW inlX3 tyX3 tyX3_ok nmX3 (by decide) cC_1 rfl 2 (by decide) mw_62 rfl rfl rfl (Nat.le_of_ble_eq_true rfl) cC_sn dX3_begin_2 (fun H locs hW => ?_)
  refine lv_iconst (v := 0) hx hb dX3_begin_5 (by decide) ?_
  refine lv_istore_n (lv' := [(2, .int 0), (0, .ref (ad 1)), (1, .int (nI np))]) hx hb dX3_begin_6 rfl hl (by decide) rfl (fun ls hl => ?_)
  have L7 : ∀ (k7 : Nat) (i : Nat) (dd : Nat → Nat → Int32), i + k7 = 6 → lp (fun dd i => u2 (fillR dd i 1) i i 0) i k7 dd = beginV d → ∀ (H : Heap) (locs : List Loc), Wd D 29 ad (cC cyI cO ad np dd md go ke ha wy ab be sr) A s.heap H locs → ∀ ls : Array Slot, lv_has ls 3 [(2, .int (nI i)), (0, .ref (ad 1))] → W p l e ({ frames := 1, cells := 0, slots := 0, locals := 23 } : Room) s m args below meth c H locs 0 0 (MQ below (uQ D 29 ad (cC cyI cO ad np (beginV d) md go ke ha wy ab be sr) (none) A) args s 0 0 A) (F0 m 7 ls []) := by
    intro k7
    induction k7 with
    | zero =>
      intro i dd hi r7 H locs hW ls hl
      refine lv_iload_n hx hb dX3_begin_7 rfl (lv_at hl 0 rfl) ?_
      refine lv_bipush (v := 6) hx hb dX3_begin_8 (by decide) ?_
      refine lv_icmp_ge (tgt := 38) hx hb dX3_begin_10 (by decide) (fun _ => ?_) (fun c9 => absurd (show nI 6 ≤ nI i from nI_le (by omega) (by omega)) c9)
      exact u_vret C hr hW dX3_begin_38 (by rw [← r7]; rfl)
    | succ k7 ih7 =>
      intro i dd hi r7 H locs hW ls hl
      refine lv_iload_n hx hb dX3_begin_7 rfl (lv_at hl 0 rfl) ?_
      refine lv_bipush (v := 6) hx hb dX3_begin_8 (by decide) ?_
      refine lv_icmp_ge (tgt := 38) hx hb dX3_begin_10 (by decide) (fun c9 => absurd c9 (show ¬ nI 6 ≤ nI i from nI_ge (by omega) (by omega))) (fun _ => ?_)
      refine lv_aload_n hx hb dX3_begin_13 rfl (lv_at hl 1 rfl) ?_
      refine u_get C hW inlX3 (by decide) cC_1 rfl 0 (by decide) mw_34 rfl dX3_begin_14 ?_
      refine lv_iload_n hx hb dX3_begin_17 rfl (lv_at hl 0 rfl) ?_
      refine u_aald C hW (by decide) cC_2 1 rfl i rfl (by omega) (by decide) (cC_outer (by omega)) dX3_begin_18 ?_
      refine lv_iconst (v := 1) hx hb dX3_begin_19 (by decide) ?_
      refine u_callS (cf' := cC cyI cO ad np (fillR dd i 1) md go ke ha wy ab be sr) (As := [.ref (ad (3 + i)), .int 1]) (rest := []) (st1 := []) C hW (c_fillR l D cyI cO cyZ ad fa np dd md go ke ha wy ab be sr i 1 (by omega)) ms_yJ7_fill_53178 mw_63 rfl ⟨rfl, rfl, Nat.le_of_ble_eq_true rfl, Nat.le_of_ble_eq_true rfl⟩ hl (Nat.le_of_ble_eq_true rfl) rfl rfl dX3_begin_20 (fun H locs hW => ?_)
      refine lv_aload_n hx hb dX3_begin_23 rfl (lv_at hl 1 rfl) ?_
      refine u_get C hW inlX3 (by decide) cC_1 rfl 0 (by decide) mw_34 rfl dX3_begin_24 ?_
      refine lv_iload_n hx hb dX3_begin_27 rfl (lv_at hl 0 rfl) ?_
      refine u_aald C hW (by decide) cC_2 1 rfl i rfl (by omega) (by decide) (cC_outer (by omega)) dX3_begin_28 ?_
      refine lv_iload_n hx hb dX3_begin_29 rfl (lv_at hl 0 rfl) ?_
      refine lv_iconst (v := 0) hx hb dX3_begin_30 (by decide) ?_
      refine u_iast (cf' := cC cyI cO ad np (u2 (fillR dd i 1) i i 0) md go ke ha wy ab be sr) C hW (by omega) (cC_d (by omega)) 0 rfl i rfl (by omega) (by decide) (cC_sd (by omega)) dX3_begin_31 (fun H locs hW => ?_)
      refine lv_iinc (v := nI (i + 1)) (lv' := [(2, .int (nI (i + 1))), (0, .ref (ad 1))]) hx hb dX3_begin_32 hl (k := 0) rfl (nI_1 _) (by decide) rfl (fun ls hl => ?_)
      refine lv_goto (tgt := 7) hx hb dX3_begin_35 (by decide) ?_
      exact ih7  (i + 1) (u2 (fillR dd i 1) i i 0) (by omega) r7 H locs hW ls (lv_sub hl [0, 1] rfl)
  exact L7 6 0 d (by omega) rfl H locs hW ls (lv_sub hl [0, 1] rfl)
set_option maxHeartbeats 4000000 in
set_option maxRecDepth 100000 in
theorem c_X3_put (l : Launch) (D : va_G) (cyI cO cyZ : ClassId) (ad : Nat → Nat) (fa : Nat) (n : Nat) (d md : Nat → Nat → Int32) (go ke ha : Nat → Int32) (wy : Nat → Nat → Int32) (ab be sr : Int32) (i j : Nat) (v : Int32) (hi : i < 6) (hj : j < 6) : Ct l yX3_put (Cond.code yX3_put cX3_put 4 none :: wsL_law) ({ frames := 0, cells := 0, slots := 0, locals := 0 } : Room) D (ty3 cyI cO cyZ) 29 ad fa [.ref (ad 1), .int (nI i), .int (nI j), .int v] (cC cyI cO ad n d md go ke ha wy ab be sr) (cC cyI cO ad n (putV d i j v) md go ke ha wy ab be sr) (none) := by
  refine Ct.of (by decide) (Nat.le_of_ble_eq_true rfl) ?_
  intro p e s m args below meth c A C hr H locs hW ls hl
  have C : Cx p s m args meth c cX3_put 4 RX3 D (ty3 cyI cO cyZ) fa A := C
  have hx := C.1
  have hb := C.2.1
  have hl : lv_has ls 4 [(0, .ref (ad 1)), (1, .int (nI i)), (2, .int (nI j)), (3, .int v)] := hl
  refine lv_aload_n hx hb dX3_put_0 rfl (lv_at hl 0 rfl) ?_
  refine u_get C hW inlX3 (by decide) cC_1 rfl 0 (by decide) mw_34 rfl dX3_put_1 ?_
  refine lv_iload_n hx hb dX3_put_4 rfl (lv_at hl 1 rfl) ?_
  refine u_aald C hW (by decide) cC_2 1 rfl i rfl (by omega) (by decide) (cC_outer (by omega)) dX3_put_5 ?_
  refine lv_iload_n hx hb dX3_put_6 rfl (lv_at hl 2 rfl) ?_
  refine lv_iload_n hx hb dX3_put_7 rfl (lv_at hl 3 rfl) ?_
  refine u_iast (cf' := cC cyI cO ad n (u2 d i j v) md go ke ha wy ab be sr) C hW (by omega) (cC_d (by omega)) 0 rfl j rfl (by omega) (by decide) (cC_sd (by omega)) dX3_put_8 (fun H locs hW => ?_)
  refine lv_aload_n hx hb dX3_put_9 rfl (lv_at hl 0 rfl) ?_
  refine u_get C hW inlX3 (by decide) cC_1 rfl 0 (by decide) mw_34 rfl dX3_put_10 ?_
  refine lv_iload_n hx hb dX3_put_13 rfl (lv_at hl 2 rfl) ?_
  refine u_aald C hW (by decide) cC_2 1 rfl j rfl (by omega) (by decide) (cC_outer (by omega)) dX3_put_14 ?_
  refine lv_iload_n hx hb dX3_put_15 rfl (lv_at hl 1 rfl) ?_
  refine lv_iload_n hx hb dX3_put_16 rfl (lv_at hl 3 rfl) ?_
  refine u_iast (cf' := cC cyI cO ad n (u2 (u2 d i j v) j i v) md go ke ha wy ab be sr) C hW (by omega) (cC_d (by omega)) 0 rfl i rfl (by omega) (by decide) (cC_sd (by omega)) dX3_put_17 (fun H locs hW => ?_)
  exact u_vret C hr hW dX3_put_18 rfl
set_option maxHeartbeats 4000000 in
set_option maxRecDepth 100000 in
theorem c_X3_together (l : Launch) (D : va_G) (cyI cO cyZ : ClassId) (ad : Nat → Nat) (fa : Nat) (n : Nat) (d md : Nat → Nat → Int32) (go ke ha : Nat → Int32) (wy : Nat → Nat → Int32) (ab be sr : Int32) (x y kd : Int32)  : Ct l yX3_together (Cond.code yX3_together cX3_together 3 (some .int) :: wsL_law) ({ frames := 1, cells := 0, slots := 0, locals := 26 } : Room) D (ty3 cyI cO cyZ) 29 ad fa [.int x, .int y, .int kd] (cC cyI cO ad n d md go ke ha wy ab be sr) (cC cyI cO ad n d md go ke ha wy ab be sr) (some (.int (togV x y kd))) := by
  refine Ct.of (by decide) (Nat.le_of_ble_eq_true rfl) ?_
  intro p e s m args below meth c A C hr H locs hW ls hl
  have C : Cx p s m args meth c cX3_together 3 RX3 D (ty3 cyI cO cyZ) fa A := C
  have hx := C.1
  have hb := C.2.1
  have hl : lv_has ls 3 [(0, .int x), (1, .int y), (2, .int kd)] := hl
  refine lv_iload_n hx hb dX3_together_0 rfl (lv_at hl 2 rfl) ?_
  refine lv_if_ne (tgt := 10) hx hb dX3_together_1 (by decide) (fun c1_1 => ?_) (fun c1_1 => ?_)
  · skip
    refine lv_iload_n hx hb dX3_together_10 rfl (lv_at hl 0 rfl) ?_
    refine lv_iload_n hx hb dX3_together_11 rfl (lv_at hl 1 rfl) ?_
    refine u_max C mw_145 hl (by decide) (Nat.le_of_ble_eq_true rfl) dX3_together_12 ?_
    refine u_top (y := mx x y) rfl ?_
    exact u_iret C hr hW dX3_together_15 (by simp only [togV, if_neg c1_1]) rfl
  · skip
    refine lv_iload_n hx hb dX3_together_4 rfl (lv_at hl 0 rfl) ?_
    refine lv_iload_n hx hb dX3_together_5 rfl (lv_at hl 1 rfl) ?_
    refine lv_iadd hx hb dX3_together_6 ?_
    refine lv_goto (tgt := 15) hx hb dX3_together_7 (by decide) ?_
    exact u_iret C hr hW dX3_together_15 (by simp only [togV, if_pos c1_1]) rfl
set_option maxHeartbeats 4000000 in
set_option maxRecDepth 100000 in
theorem c_X3_shorterBy (l : Launch) (D : va_G) (cyI cO cyZ : ClassId) (ad : Nat → Nat) (fa : Nat) (n : Nat) (d md : Nat → Nat → Int32) (go ke ha : Nat → Int32) (wy : Nat → Nat → Int32) (ab be sr : Int32) (i j : Nat) (kd : Int32) (hn : n ≤ 6) (hi : i < 6) (hj : j < 6) : Ct l yX3_shorterBy (Cond.code yX3_shorterBy cX3_shorterBy 6 (some .int) :: wsL_law) ({ frames := 2, cells := 0, slots := 0, locals := 48 } : Room) D (ty3 cyI cO cyZ) 29 ad fa [.ref (ad 1), .int (nI i), .int (nI j), .int kd] (cC cyI cO ad n d md go ke ha wy ab be sr) (cC cyI cO ad n d md go ke ha wy ab be sr) (some (.int (sbV n d i j kd))) := by
  refine Ct.of (by decide) (Nat.le_of_ble_eq_true rfl) ?_
  intro p e s m args below meth c A C hr H locs hW ls hl
  have C : Cx p s m args meth c cX3_shorterBy 6 RX3 D (ty3 cyI cO cyZ) fa A := C
  have hx := C.1
  have hb := C.2.1
  have hl : lv_has ls 6 [(0, .ref (ad 1)), (1, .int (nI i)), (2, .int (nI j)), (3, .int kd)] := hl
  refine lv_iconst (v := 0) hx hb dX3_shorterBy_0 (by decide) ?_
  refine lv_istore (lv' := [(4, .int 0), (0, .ref (ad 1)), (1, .int (nI i)), (2, .int (nI j)), (3, .int kd)]) hx hb dX3_shorterBy_1 hl (by decide) rfl (fun ls hl => ?_)
  refine lv_iconst (v := 0) hx hb dX3_shorterBy_3 (by decide) ?_
  refine lv_istore (lv' := [(5, .int 0), (4, .int 0), (0, .ref (ad 1)), (1, .int (nI i)), (2, .int (nI j)), (3, .int kd)]) hx hb dX3_shorterBy_4 hl (by decide) rfl (fun ls hl => ?_)
  have L6 : ∀ (k6 : Nat) (k : Nat) (a : Int32), k + k6 = n → lp (fun a k => if d i j ≤ togV (d i k) (d k j) kd then a else a + 1) k k6 a = sbV n d i j kd → ∀ (H : Heap) (locs : List Loc), Wd D 29 ad (cC cyI cO ad n d md go ke ha wy ab be sr) A s.heap H locs → ∀ ls : Array Slot, lv_has ls 6 [(5, .int (nI k)), (0, .ref (ad 1)), (1, .int (nI i)), (2, .int (nI j)), (3, .int kd), (4, .int a)] → W p l e ({ frames := 2, cells := 0, slots := 0, locals := 48 } : Room) s m args below meth c H locs 0 0 (MQ below (uQ D 29 ad (cC cyI cO ad n d md go ke ha wy ab be sr) (some (.int (sbV n d i j kd))) A) args s 0 0 A) (F0 m 6 ls []) := by
    intro k6
    induction k6 with
    | zero =>
      intro k a hk r6 H locs hW ls hl
      refine lv_iload hx hb dX3_shorterBy_6 (lv_at hl 0 rfl) ?_
      refine lv_aload_n hx hb dX3_shorterBy_8 rfl (lv_at hl 1 rfl) ?_
      refine u_get C hW inlX3 (by decide) cC_1 rfl 2 (by decide) mw_62 rfl dX3_shorterBy_9 ?_
      refine lv_icmp_ge (tgt := 57) hx hb dX3_shorterBy_12 (by decide) (fun _ => ?_) (fun c9 => absurd (nI_le (by omega) (by omega)) c9)
      refine lv_iload hx hb dX3_shorterBy_57 (lv_at hl 5 rfl) ?_
      exact u_iret C hr hW dX3_shorterBy_59 r6 rfl
    | succ k6 ih6 =>
      intro k a hk r6 H locs hW ls hl
      refine lv_iload hx hb dX3_shorterBy_6 (lv_at hl 0 rfl) ?_
      refine lv_aload_n hx hb dX3_shorterBy_8 rfl (lv_at hl 1 rfl) ?_
      refine u_get C hW inlX3 (by decide) cC_1 rfl 2 (by decide) mw_62 rfl dX3_shorterBy_9 ?_
      refine lv_icmp_ge (tgt := 57) hx hb dX3_shorterBy_12 (by decide) (fun c9 => absurd c9 (nI_ge (by omega) (by omega))) (fun _ => ?_)
      refine lv_aload_n hx hb dX3_shorterBy_15 rfl (lv_at hl 1 rfl) ?_
      refine u_get C hW inlX3 (by decide) cC_1 rfl 0 (by decide) mw_34 rfl dX3_shorterBy_16 ?_
      refine lv_iload_n hx hb dX3_shorterBy_19 rfl (lv_at hl 2 rfl) ?_
      refine u_aald C hW (by decide) cC_2 1 rfl i rfl (by omega) (by decide) (cC_outer (by omega)) dX3_shorterBy_20 ?_
      refine lv_iload_n hx hb dX3_shorterBy_21 rfl (lv_at hl 3 rfl) ?_
      refine u_iald C hW (by omega) (cC_d (by omega)) 0 rfl j rfl (by omega) (by decide) dX3_shorterBy_22 ?_
      refine lv_aload_n hx hb dX3_shorterBy_23 rfl (lv_at hl 1 rfl) ?_
      refine u_get C hW inlX3 (by decide) cC_1 rfl 0 (by decide) mw_34 rfl dX3_shorterBy_24 ?_
      refine lv_iload_n hx hb dX3_shorterBy_27 rfl (lv_at hl 2 rfl) ?_
      refine u_aald C hW (by decide) cC_2 1 rfl i rfl (by omega) (by decide) (cC_outer (by omega)) dX3_shorterBy_28 ?_
      refine lv_iload hx hb dX3_shorterBy_29 (lv_at hl 0 rfl) ?_
      refine u_iald C hW (by omega) (cC_d (by omega)) 0 rfl k rfl (by omega) (by decide) dX3_shorterBy_31 ?_
      refine lv_aload_n hx hb dX3_shorterBy_32 rfl (lv_at hl 1 rfl) ?_
      refine u_get C hW inlX3 (by decide) cC_1 rfl 0 (by decide) mw_34 rfl dX3_shorterBy_33 ?_
      refine lv_iload hx hb dX3_shorterBy_36 (lv_at hl 0 rfl) ?_
      refine u_aald C hW (by decide) cC_2 1 rfl k rfl (by omega) (by decide) (cC_outer (by omega)) dX3_shorterBy_38 ?_
      refine lv_iload_n hx hb dX3_shorterBy_39 rfl (lv_at hl 3 rfl) ?_
      refine u_iald C hW (by omega) (cC_d (by omega)) 0 rfl j rfl (by omega) (by decide) dX3_shorterBy_40 ?_
      refine lv_iload_n hx hb dX3_shorterBy_41 rfl (lv_at hl 4 rfl) ?_
      refine u_callS (cf' := cC cyI cO ad n d md go ke ha wy ab be sr) (As := [.int (d i k), .int (d k j), .int kd]) (rest := [.int (d i j)]) (st1 := [.int (togV (d i k) (d k j) kd), .int (d i j)]) C hW (c_X3_together l D cyI cO cyZ ad fa n d md go ke ha wy ab be sr (d i k) (d k j) kd ) ms_yX3_together mw_142 rfl ⟨rfl, rfl, Nat.le_of_ble_eq_true rfl, Nat.le_of_ble_eq_true rfl⟩ hl (Nat.le_of_ble_eq_true rfl) rfl rfl dX3_shorterBy_42 (fun H locs hW => ?_)
      refine lv_icmp_le (tgt := 51) hx hb dX3_shorterBy_45 (by decide) (fun c45_1 => ?_) (fun c45_1 => ?_)
      · skip
        refine lv_iinc (v := nI (k + 1)) (lv' := [(5, .int (nI (k + 1))), (0, .ref (ad 1)), (1, .int (nI i)), (2, .int (nI j)), (3, .int kd), (4, .int a)]) hx hb dX3_shorterBy_51 hl (k := 0) rfl (nI_1 _) (by decide) rfl (fun ls hl => ?_)
        refine lv_goto (tgt := 6) hx hb dX3_shorterBy_54 (by decide) ?_
        exact ih6  (k + 1) a (by omega) (by have h9 := r6; simp only [lp_s, lp_0, if_pos c45_1] at h9; exact h9) H locs hW ls (lv_sub hl [0, 1, 2, 3, 4, 5] rfl)
      · skip
        refine lv_iinc (v := a + 1) (lv' := [(4, .int (a + 1)), (5, .int (nI k)), (0, .ref (ad 1)), (1, .int (nI i)), (2, .int (nI j)), (3, .int kd)]) hx hb dX3_shorterBy_48 hl (k := 5) rfl rfl (by decide) rfl (fun ls hl => ?_)
        refine lv_iinc (v := nI (k + 1)) (lv' := [(5, .int (nI (k + 1))), (4, .int (a + 1)), (0, .ref (ad 1)), (1, .int (nI i)), (2, .int (nI j)), (3, .int kd)]) hx hb dX3_shorterBy_51 hl (k := 1) rfl (nI_1 _) (by decide) rfl (fun ls hl => ?_)
        refine lv_goto (tgt := 6) hx hb dX3_shorterBy_54 (by decide) ?_
        exact ih6  (k + 1) (a + 1) (by omega) (by have h9 := r6; simp only [lp_s, lp_0, if_neg c45_1] at h9; exact h9) H locs hW ls (lv_sub hl [0, 2, 3, 4, 5, 1] rfl)
  exact L6 n 0 0 (by omega) rfl H locs hW ls (lv_sub hl [0, 2, 3, 4, 5, 1] rfl)
set_option maxHeartbeats 4000000 in
set_option maxRecDepth 100000 in
theorem c_X3_brokenThrees (l : Launch) (D : va_G) (cyI cO cyZ : ClassId) (ad : Nat → Nat) (fa : Nat) (n : Nat) (d md : Nat → Nat → Int32) (go ke ha : Nat → Int32) (wy : Nat → Nat → Int32) (ab be sr : Int32) (kd : Int32) (hn : n ≤ 6) : Ct l yX3_brokenThrees (Cond.code yX3_brokenThrees cX3_brokenThrees 5 (some .int) :: wsL_law) ({ frames := 3, cells := 0, slots := 0, locals := 73 } : Room) D (ty3 cyI cO cyZ) 29 ad fa [.ref (ad 1), .int kd] (cC cyI cO ad n d md go ke ha wy ab be sr) (cC cyI cO ad n d md go ke ha wy ab be sr) (some (.int (btV n d kd))) := by
  refine Ct.of (by decide) (Nat.le_of_ble_eq_true rfl) ?_
  intro p e s m args below meth c A C hr H locs hW ls hl
  have C : Cx p s m args meth c cX3_brokenThrees 5 RX3 D (ty3 cyI cO cyZ) fa A := C
  have hx := C.1
  have hb := C.2.1
  have hl : lv_has ls 5 [(0, .ref (ad 1)), (1, .int kd)] := hl
  refine lv_iconst (v := 0) hx hb dX3_brokenThrees_0 (by decide) ?_
  refine lv_istore_n (lv' := [(2, .int 0), (0, .ref (ad 1)), (1, .int kd)]) hx hb dX3_brokenThrees_1 rfl hl (by decide) rfl (fun ls hl => ?_)
  refine lv_iconst (v := 0) hx hb dX3_brokenThrees_2 (by decide) ?_
  refine lv_istore_n (lv' := [(3, .int 0), (2, .int 0), (0, .ref (ad 1)), (1, .int kd)]) hx hb dX3_brokenThrees_3 rfl hl (by decide) rfl (fun ls hl => ?_)
  have L4 : ∀ (k4 : Nat) (i : Nat) (a : Int32), i + k4 = n → lp (fun a i => lp (fun a j => a + sbV n d i j kd) (i + 1) (n - (i + 1)) a) i k4 a = btV n d kd → ∀ (H : Heap) (locs : List Loc), Wd D 29 ad (cC cyI cO ad n d md go ke ha wy ab be sr) A s.heap H locs → ∀ ls : Array Slot, lv_has ls 5 [(3, .int (nI i)), (0, .ref (ad 1)), (1, .int kd), (2, .int a)] → W p l e ({ frames := 3, cells := 0, slots := 0, locals := 73 } : Room) s m args below meth c H locs 0 0 (MQ below (uQ D 29 ad (cC cyI cO ad n d md go ke ha wy ab be sr) (some (.int (btV n d kd))) A) args s 0 0 A) (F0 m 4 ls []) := by
    intro k4
    induction k4 with
    | zero =>
      intro i a hi r4 H locs hW ls hl
      refine lv_iload_n hx hb dX3_brokenThrees_4 rfl (lv_at hl 0 rfl) ?_
      refine lv_aload_n hx hb dX3_brokenThrees_5 rfl (lv_at hl 1 rfl) ?_
      refine u_get C hW inlX3 (by decide) cC_1 rfl 2 (by decide) mw_62 rfl dX3_brokenThrees_6 ?_
      refine lv_icmp_ge (tgt := 49) hx hb dX3_brokenThrees_9 (by decide) (fun _ => ?_) (fun c9 => absurd (nI_le (by omega) (by omega)) c9)
      refine lv_iload_n hx hb dX3_brokenThrees_49 rfl (lv_at hl 3 rfl) ?_
      exact u_iret C hr hW dX3_brokenThrees_50 r4 rfl
    | succ k4 ih4 =>
      intro i a hi r4 H locs hW ls hl
      refine lv_iload_n hx hb dX3_brokenThrees_4 rfl (lv_at hl 0 rfl) ?_
      refine lv_aload_n hx hb dX3_brokenThrees_5 rfl (lv_at hl 1 rfl) ?_
      refine u_get C hW inlX3 (by decide) cC_1 rfl 2 (by decide) mw_62 rfl dX3_brokenThrees_6 ?_
      refine lv_icmp_ge (tgt := 49) hx hb dX3_brokenThrees_9 (by decide) (fun c9 => absurd c9 (nI_ge (by omega) (by omega))) (fun _ => ?_)
      refine lv_iload_n hx hb dX3_brokenThrees_12 rfl (lv_at hl 0 rfl) ?_
      refine lv_iconst (v := 1) hx hb dX3_brokenThrees_13 (by decide) ?_
      refine lv_iadd hx hb dX3_brokenThrees_14 ?_
      refine u_top (show (nI i) + 1 = nI (i + 1) from nI_add i 1) ?_
      refine lv_istore (lv' := [(4, .int (nI (i + 1))), (3, .int (nI i)), (0, .ref (ad 1)), (1, .int kd), (2, .int a)]) hx hb dX3_brokenThrees_15 hl (by decide) rfl (fun ls hl => ?_)
      have L17 : ∀ (k17 : Nat) (j : Nat) (a : Int32), j + k17 = n → lp (fun a i => lp (fun a j => a + sbV n d i j kd) (i + 1) (n - (i + 1)) a) (i + 1) k4 (lp (fun a j => a + sbV n d i j kd) j k17 a) = btV n d kd → ∀ (H : Heap) (locs : List Loc), Wd D 29 ad (cC cyI cO ad n d md go ke ha wy ab be sr) A s.heap H locs → ∀ ls : Array Slot, lv_has ls 5 [(4, .int (nI j)), (0, .ref (ad 1)), (1, .int kd), (2, .int a), (3, .int (nI i))] → W p l e ({ frames := 3, cells := 0, slots := 0, locals := 73 } : Room) s m args below meth c H locs 0 0 (MQ below (uQ D 29 ad (cC cyI cO ad n d md go ke ha wy ab be sr) (some (.int (btV n d kd))) A) args s 0 0 A) (F0 m 17 ls []) := by
        intro k17
        induction k17 with
        | zero =>
          intro j a hj r17 H locs hW ls hl
          refine lv_iload hx hb dX3_brokenThrees_17 (lv_at hl 0 rfl) ?_
          refine lv_aload_n hx hb dX3_brokenThrees_19 rfl (lv_at hl 1 rfl) ?_
          refine u_get C hW inlX3 (by decide) cC_1 rfl 2 (by decide) mw_62 rfl dX3_brokenThrees_20 ?_
          refine lv_icmp_ge (tgt := 43) hx hb dX3_brokenThrees_23 (by decide) (fun _ => ?_) (fun c9 => absurd (nI_le (by omega) (by omega)) c9)
          refine lv_iinc (v := nI (i + 1)) (lv' := [(3, .int (nI (i + 1))), (4, .int (nI j)), (0, .ref (ad 1)), (1, .int kd), (2, .int a)]) hx hb dX3_brokenThrees_43 hl (k := 4) rfl (nI_1 _) (by decide) rfl (fun ls hl => ?_)
          refine lv_goto (tgt := 4) hx hb dX3_brokenThrees_46 (by decide) ?_
          exact ih4  (i + 1) a (by omega) r17 H locs hW ls (lv_sub hl [0, 2, 3, 4] rfl)
        | succ k17 ih17 =>
          intro j a hj r17 H locs hW ls hl
          refine lv_iload hx hb dX3_brokenThrees_17 (lv_at hl 0 rfl) ?_
          refine lv_aload_n hx hb dX3_brokenThrees_19 rfl (lv_at hl 1 rfl) ?_
          refine u_get C hW inlX3 (by decide) cC_1 rfl 2 (by decide) mw_62 rfl dX3_brokenThrees_20 ?_
          refine lv_icmp_ge (tgt := 43) hx hb dX3_brokenThrees_23 (by decide) (fun c9 => absurd c9 (nI_ge (by omega) (by omega))) (fun _ => ?_)
          refine lv_iload_n hx hb dX3_brokenThrees_26 rfl (lv_at hl 3 rfl) ?_
          refine lv_aload_n hx hb dX3_brokenThrees_27 rfl (lv_at hl 1 rfl) ?_
          refine lv_iload_n hx hb dX3_brokenThrees_28 rfl (lv_at hl 4 rfl) ?_
          refine lv_iload hx hb dX3_brokenThrees_29 (lv_at hl 0 rfl) ?_
          refine lv_iload_n hx hb dX3_brokenThrees_31 rfl (lv_at hl 2 rfl) ?_
          refine u_callV (cf' := cC cyI cO ad n d md go ke ha wy ab be sr) (As := [.int (nI i), .int (nI j), .int kd]) (rest := [.int a]) (st1 := [.int (sbV n d i j kd), .int a]) C hW (c_X3_shorterBy l D cyI cO cyZ ad fa n d md go ke ha wy ab be sr i j kd (by omega) (by omega) (by omega)) mv_yX3_shorterBy mw_138 rfl ⟨rfl, rfl, Nat.le_of_ble_eq_true rfl, Nat.le_of_ble_eq_true rfl⟩ (by decide) cC_1 rfl rfl hl (Nat.le_of_ble_eq_true rfl) rfl rfl dX3_brokenThrees_32 (fun H locs hW => ?_)
          refine lv_iadd hx hb dX3_brokenThrees_35 ?_
          refine lv_istore_n (lv' := [(2, .int (a + (sbV n d i j kd))), (4, .int (nI j)), (0, .ref (ad 1)), (1, .int kd), (3, .int (nI i))]) hx hb dX3_brokenThrees_36 rfl hl (by decide) rfl (fun ls hl => ?_)
          refine lv_iinc (v := nI (j + 1)) (lv' := [(4, .int (nI (j + 1))), (2, .int (a + (sbV n d i j kd))), (0, .ref (ad 1)), (1, .int kd), (3, .int (nI i))]) hx hb dX3_brokenThrees_37 hl (k := 1) rfl (nI_1 _) (by decide) rfl (fun ls hl => ?_)
          refine lv_goto (tgt := 17) hx hb dX3_brokenThrees_40 (by decide) ?_
          exact ih17  (j + 1) (a + (sbV n d i j kd)) (by omega) r17 H locs hW ls (lv_sub hl [0, 2, 3, 1, 4] rfl)
      exact L17 (n - (i + 1)) (i + 1) a (by omega) r4 H locs hW ls (lv_sub hl [0, 2, 3, 4, 1] rfl)
  exact L4 n 0 0 (by omega) rfl H locs hW ls (lv_sub hl [0, 2, 3, 1] rfl)
set_option maxHeartbeats 4000000 in
set_option maxRecDepth 100000 in
theorem c_X3_twoGreatestAlike (l : Launch) (D : va_G) (cyI cO cyZ : ClassId) (ad : Nat → Nat) (fa : Nat) (n : Nat) (d md : Nat → Nat → Int32) (go ke ha : Nat → Int32) (wy : Nat → Nat → Int32) (ab be sr : Int32) (a b g : Int32)  : Ct l yX3_twoGreatestAlike (Cond.code yX3_twoGreatestAlike cX3_twoGreatestAlike 4 (some .boolean) :: wsL_law) ({ frames := 1, cells := 0, slots := 0, locals := 26 } : Room) D (ty3 cyI cO cyZ) 29 ad fa [.int a, .int b, .int g] (cC cyI cO ad n d md go ke ha wy ab be sr) (cC cyI cO ad n d md go ke ha wy ab be sr) (some (.int (tgaV a b g))) := by
  refine Ct.of (by decide) (Nat.le_of_ble_eq_true rfl) ?_
  intro p e s m args below meth c A C hr H locs hW ls hl
  have C : Cx p s m args meth c cX3_twoGreatestAlike 4 RX3 D (ty3 cyI cO cyZ) fa A := C
  have hx := C.1
  have hb := C.2.1
  have hl : lv_has ls 4 [(0, .int a), (1, .int b), (2, .int g)] := hl
  refine lv_iload_n hx hb dX3_twoGreatestAlike_0 rfl (lv_at hl 0 rfl) ?_
  refine lv_iload_n hx hb dX3_twoGreatestAlike_1 rfl (lv_at hl 1 rfl) ?_
  refine lv_iload_n hx hb dX3_twoGreatestAlike_2 rfl (lv_at hl 2 rfl) ?_
  refine u_max C mw_145 hl (by decide) (Nat.le_of_ble_eq_true rfl) dX3_twoGreatestAlike_3 ?_
  refine u_top (y := mx b g) rfl ?_
  refine u_max C mw_145 hl (by decide) (Nat.le_of_ble_eq_true rfl) dX3_twoGreatestAlike_6 ?_
  refine u_top (y := mx a (mx b g)) rfl ?_
  refine lv_istore_n (lv' := [(3, .int (mx a (mx b g))), (0, .int a), (1, .int b), (2, .int g)]) hx hb dX3_twoGreatestAlike_9 rfl hl (by decide) rfl (fun ls hl => ?_)
  refine lv_iload_n hx hb dX3_twoGreatestAlike_10 rfl (lv_at hl 1 rfl) ?_
  refine lv_iload_n hx hb dX3_twoGreatestAlike_11 rfl (lv_at hl 2 rfl) ?_
  refine lv_icmp_ne (tgt := 20) hx hb dX3_twoGreatestAlike_12 (by decide) (fun c12_1 => ?_) (fun c12_1 => ?_)
  · skip
    refine lv_iload_n hx hb dX3_twoGreatestAlike_20 rfl (lv_at hl 1 rfl) ?_
    refine lv_iload_n hx hb dX3_twoGreatestAlike_21 rfl (lv_at hl 3 rfl) ?_
    refine lv_icmp_ne (tgt := 30) hx hb dX3_twoGreatestAlike_22 (by decide) (fun c22_2 => ?_) (fun c22_2 => ?_)
    · skip
      refine lv_iload_n hx hb dX3_twoGreatestAlike_30 rfl (lv_at hl 2 rfl) ?_
      refine lv_iload_n hx hb dX3_twoGreatestAlike_31 rfl (lv_at hl 3 rfl) ?_
      refine lv_icmp_ne (tgt := 44) hx hb dX3_twoGreatestAlike_32 (by decide) (fun c32_3 => ?_) (fun c32_3 => ?_)
      · skip
        refine lv_iconst (v := 0) hx hb dX3_twoGreatestAlike_44 (by decide) ?_
        exact u_zret C hr hW dX3_twoGreatestAlike_45 (by first | exact Or.inl rfl | exact Or.inr rfl) (by first | (simp only [tgaV, if_neg c12_1, if_neg c22_2, if_neg c32_3]; done) | (exfalso; contradiction)) rfl
      · skip
        refine lv_iload_n hx hb dX3_twoGreatestAlike_35 rfl (lv_at hl 2 rfl) ?_
        refine lv_iload_n hx hb dX3_twoGreatestAlike_36 rfl (lv_at hl 0 rfl) ?_
        refine lv_icmp_ne (tgt := 44) hx hb dX3_twoGreatestAlike_37 (by decide) (fun c37_4 => ?_) (fun c37_4 => ?_)
        · skip
          refine lv_iconst (v := 0) hx hb dX3_twoGreatestAlike_44 (by decide) ?_
          exact u_zret C hr hW dX3_twoGreatestAlike_45 (by first | exact Or.inl rfl | exact Or.inr rfl) (by first | (simp only [tgaV, if_neg c12_1, if_neg c22_2, if_pos c32_3, if_neg c37_4]; done) | (exfalso; contradiction)) rfl
        · skip
          refine lv_iconst (v := 1) hx hb dX3_twoGreatestAlike_40 (by decide) ?_
          refine lv_goto (tgt := 45) hx hb dX3_twoGreatestAlike_41 (by decide) ?_
          exact u_zret C hr hW dX3_twoGreatestAlike_45 (by first | exact Or.inl rfl | exact Or.inr rfl) (by first | (simp only [tgaV, if_neg c12_1, if_neg c22_2, if_pos c32_3, if_pos c37_4]; done) | (exfalso; contradiction)) rfl
    · skip
      refine lv_iload_n hx hb dX3_twoGreatestAlike_25 rfl (lv_at hl 1 rfl) ?_
      refine lv_iload_n hx hb dX3_twoGreatestAlike_26 rfl (lv_at hl 0 rfl) ?_
      refine lv_icmp_eq (tgt := 40) hx hb dX3_twoGreatestAlike_27 (by decide) (fun c27_5 => ?_) (fun c27_5 => ?_)
      · skip
        refine lv_iconst (v := 1) hx hb dX3_twoGreatestAlike_40 (by decide) ?_
        refine lv_goto (tgt := 45) hx hb dX3_twoGreatestAlike_41 (by decide) ?_
        exact u_zret C hr hW dX3_twoGreatestAlike_45 (by first | exact Or.inl rfl | exact Or.inr rfl) (by first | (simp only [tgaV, if_neg c12_1, if_pos c22_2, if_pos c27_5]; done) | (exfalso; contradiction)) rfl
      · skip
        refine lv_iload_n hx hb dX3_twoGreatestAlike_30 rfl (lv_at hl 2 rfl) ?_
        refine lv_iload_n hx hb dX3_twoGreatestAlike_31 rfl (lv_at hl 3 rfl) ?_
        refine lv_icmp_ne (tgt := 44) hx hb dX3_twoGreatestAlike_32 (by decide) (fun c32_6 => ?_) (fun c32_6 => ?_)
        · skip
          refine lv_iconst (v := 0) hx hb dX3_twoGreatestAlike_44 (by decide) ?_
          exact u_zret C hr hW dX3_twoGreatestAlike_45 (by first | exact Or.inl rfl | exact Or.inr rfl) (by first | (simp only [tgaV, if_neg c12_1, if_pos c22_2, if_neg c27_5, if_neg c32_6]; done) | (exfalso; contradiction)) rfl
        · skip
          refine lv_iload_n hx hb dX3_twoGreatestAlike_35 rfl (lv_at hl 2 rfl) ?_
          refine lv_iload_n hx hb dX3_twoGreatestAlike_36 rfl (lv_at hl 0 rfl) ?_
          refine lv_icmp_ne (tgt := 44) hx hb dX3_twoGreatestAlike_37 (by decide) (fun c37_7 => ?_) (fun c37_7 => ?_)
          · skip
            refine lv_iconst (v := 0) hx hb dX3_twoGreatestAlike_44 (by decide) ?_
            exact u_zret C hr hW dX3_twoGreatestAlike_45 (by first | exact Or.inl rfl | exact Or.inr rfl) (by first | (simp only [tgaV, if_neg c12_1, if_pos c22_2, if_neg c27_5, if_pos c32_6, if_neg c37_7]; done) | (exfalso; contradiction)) rfl
          · skip
            refine lv_iconst (v := 1) hx hb dX3_twoGreatestAlike_40 (by decide) ?_
            refine lv_goto (tgt := 45) hx hb dX3_twoGreatestAlike_41 (by decide) ?_
            exact u_zret C hr hW dX3_twoGreatestAlike_45 (by first | exact Or.inl rfl | exact Or.inr rfl) (by first | (simp only [tgaV, if_neg c12_1, if_pos c22_2, if_neg c27_5, if_pos c32_6, if_pos c37_7]; done) | (exfalso; contradiction)) rfl
  · skip
    refine lv_iload_n hx hb dX3_twoGreatestAlike_15 rfl (lv_at hl 1 rfl) ?_
    refine lv_iload_n hx hb dX3_twoGreatestAlike_16 rfl (lv_at hl 0 rfl) ?_
    refine lv_icmp_eq (tgt := 40) hx hb dX3_twoGreatestAlike_17 (by decide) (fun c17_8 => ?_) (fun c17_8 => ?_)
    · skip
      refine lv_iconst (v := 1) hx hb dX3_twoGreatestAlike_40 (by decide) ?_
      refine lv_goto (tgt := 45) hx hb dX3_twoGreatestAlike_41 (by decide) ?_
      exact u_zret C hr hW dX3_twoGreatestAlike_45 (by first | exact Or.inl rfl | exact Or.inr rfl) (by first | (simp only [tgaV, if_pos c12_1, if_pos c17_8]; done) | (exfalso; contradiction)) rfl
    · skip
      refine lv_iload_n hx hb dX3_twoGreatestAlike_20 rfl (lv_at hl 1 rfl) ?_
      refine lv_iload_n hx hb dX3_twoGreatestAlike_21 rfl (lv_at hl 3 rfl) ?_
      refine lv_icmp_ne (tgt := 30) hx hb dX3_twoGreatestAlike_22 (by decide) (fun c22_9 => ?_) (fun c22_9 => ?_)
      · skip
        refine lv_iload_n hx hb dX3_twoGreatestAlike_30 rfl (lv_at hl 2 rfl) ?_
        refine lv_iload_n hx hb dX3_twoGreatestAlike_31 rfl (lv_at hl 3 rfl) ?_
        refine lv_icmp_ne (tgt := 44) hx hb dX3_twoGreatestAlike_32 (by decide) (fun c32_10 => ?_) (fun c32_10 => ?_)
        · skip
          refine lv_iconst (v := 0) hx hb dX3_twoGreatestAlike_44 (by decide) ?_
          exact u_zret C hr hW dX3_twoGreatestAlike_45 (by first | exact Or.inl rfl | exact Or.inr rfl) (by first | (simp only [tgaV, if_pos c12_1, if_neg c17_8, if_neg c22_9, if_neg c32_10]; done) | (exfalso; contradiction)) rfl
        · skip
          refine lv_iload_n hx hb dX3_twoGreatestAlike_35 rfl (lv_at hl 2 rfl) ?_
          refine lv_iload_n hx hb dX3_twoGreatestAlike_36 rfl (lv_at hl 0 rfl) ?_
          refine lv_icmp_ne (tgt := 44) hx hb dX3_twoGreatestAlike_37 (by decide) (fun c37_11 => ?_) (fun c37_11 => ?_)
          · skip
            refine lv_iconst (v := 0) hx hb dX3_twoGreatestAlike_44 (by decide) ?_
            exact u_zret C hr hW dX3_twoGreatestAlike_45 (by first | exact Or.inl rfl | exact Or.inr rfl) (by first | (simp only [tgaV, if_pos c12_1, if_neg c17_8, if_neg c22_9, if_pos c32_10, if_neg c37_11]; done) | (exfalso; contradiction)) rfl
          · skip
            refine lv_iconst (v := 1) hx hb dX3_twoGreatestAlike_40 (by decide) ?_
            refine lv_goto (tgt := 45) hx hb dX3_twoGreatestAlike_41 (by decide) ?_
            exact u_zret C hr hW dX3_twoGreatestAlike_45 (by first | exact Or.inl rfl | exact Or.inr rfl) (by first | (simp only [tgaV, if_pos c12_1, if_neg c17_8, if_neg c22_9, if_pos c32_10, if_pos c37_11]; done) | (exfalso; contradiction)) rfl
      · skip
        refine lv_iload_n hx hb dX3_twoGreatestAlike_25 rfl (lv_at hl 1 rfl) ?_
        refine lv_iload_n hx hb dX3_twoGreatestAlike_26 rfl (lv_at hl 0 rfl) ?_
        refine lv_icmp_eq (tgt := 40) hx hb dX3_twoGreatestAlike_27 (by decide) (fun c27_12 => ?_) (fun c27_12 => ?_)
        · skip
          refine lv_iconst (v := 1) hx hb dX3_twoGreatestAlike_40 (by decide) ?_
          refine lv_goto (tgt := 45) hx hb dX3_twoGreatestAlike_41 (by decide) ?_
          exact u_zret C hr hW dX3_twoGreatestAlike_45 (by first | exact Or.inl rfl | exact Or.inr rfl) (by first | (simp only [tgaV, if_pos c12_1, if_neg c17_8, if_pos c22_9, if_pos c27_12]; done) | (exfalso; contradiction)) rfl
        · skip
          refine lv_iload_n hx hb dX3_twoGreatestAlike_30 rfl (lv_at hl 2 rfl) ?_
          refine lv_iload_n hx hb dX3_twoGreatestAlike_31 rfl (lv_at hl 3 rfl) ?_
          refine lv_icmp_ne (tgt := 44) hx hb dX3_twoGreatestAlike_32 (by decide) (fun c32_13 => ?_) (fun c32_13 => ?_)
          · skip
            refine lv_iconst (v := 0) hx hb dX3_twoGreatestAlike_44 (by decide) ?_
            exact u_zret C hr hW dX3_twoGreatestAlike_45 (by first | exact Or.inl rfl | exact Or.inr rfl) (by first | (simp only [tgaV, if_pos c12_1, if_neg c17_8, if_pos c22_9, if_neg c27_12, if_neg c32_13]; done) | (exfalso; contradiction)) rfl
          · skip
            refine lv_iload_n hx hb dX3_twoGreatestAlike_35 rfl (lv_at hl 2 rfl) ?_
            refine lv_iload_n hx hb dX3_twoGreatestAlike_36 rfl (lv_at hl 0 rfl) ?_
            refine lv_icmp_ne (tgt := 44) hx hb dX3_twoGreatestAlike_37 (by decide) (fun c37_14 => ?_) (fun c37_14 => ?_)
            · skip
              refine lv_iconst (v := 0) hx hb dX3_twoGreatestAlike_44 (by decide) ?_
              exact u_zret C hr hW dX3_twoGreatestAlike_45 (by first | exact Or.inl rfl | exact Or.inr rfl) (by first | (simp only [tgaV, if_pos c12_1, if_neg c17_8, if_pos c22_9, if_neg c27_12, if_pos c32_13, if_neg c37_14]; done) | (exfalso; contradiction)) rfl
            · skip
              refine lv_iconst (v := 1) hx hb dX3_twoGreatestAlike_40 (by decide) ?_
              refine lv_goto (tgt := 45) hx hb dX3_twoGreatestAlike_41 (by decide) ?_
              exact u_zret C hr hW dX3_twoGreatestAlike_45 (by first | exact Or.inl rfl | exact Or.inr rfl) (by first | (simp only [tgaV, if_pos c12_1, if_neg c17_8, if_pos c22_9, if_neg c27_12, if_pos c32_13, if_pos c37_14]; done) | (exfalso; contradiction)) rfl
set_option maxHeartbeats 4000000 in
set_option maxRecDepth 100000 in
theorem c_X3_brokenFoursFrom (l : Launch) (D : va_G) (cyI cO cyZ : ClassId) (ad : Nat → Nat) (fa : Nat) (n : Nat) (d md : Nat → Nat → Int32) (go ke ha : Nat → Int32) (wy : Nat → Nat → Int32) (ab be sr : Int32) (i j k : Nat) (hn : n ≤ 6) (hi : i < 6) (hj : j < 6) (hk : k < n) : Ct l yX3_brokenFoursFrom (Cond.code yX3_brokenFoursFrom cX3_brokenFoursFrom 6 (some .int) :: wsL_law) ({ frames := 2, cells := 0, slots := 0, locals := 49 } : Room) D (ty3 cyI cO cyZ) 29 ad fa [.ref (ad 1), .int (nI i), .int (nI j), .int (nI k)] (cC cyI cO ad n d md go ke ha wy ab be sr) (cC cyI cO ad n d md go ke ha wy ab be sr) (some (.int (bffV n d i j k))) := by
  refine Ct.of (by decide) (Nat.le_of_ble_eq_true rfl) ?_
  intro p e s m args below meth c A C hr H locs hW ls hl
  have C : Cx p s m args meth c cX3_brokenFoursFrom 6 RX3 D (ty3 cyI cO cyZ) fa A := C
  have hx := C.1
  have hb := C.2.1
  have hl : lv_has ls 6 [(0, .ref (ad 1)), (1, .int (nI i)), (2, .int (nI j)), (3, .int (nI k))] := hl
  refine lv_iconst (v := 0) hx hb dX3_brokenFoursFrom_0 (by decide) ?_
  refine lv_istore (lv' := [(4, .int 0), (0, .ref (ad 1)), (1, .int (nI i)), (2, .int (nI j)), (3, .int (nI k))]) hx hb dX3_brokenFoursFrom_1 hl (by decide) rfl (fun ls hl => ?_)
  refine lv_iload_n hx hb dX3_brokenFoursFrom_3 rfl (lv_at hl 4 rfl) ?_
  refine lv_iconst (v := 1) hx hb dX3_brokenFoursFrom_4 (by decide) ?_
  refine lv_iadd hx hb dX3_brokenFoursFrom_5 ?_
  refine u_top (show (nI k) + 1 = nI (k + 1) from nI_add k 1) ?_
  refine lv_istore (lv' := [(5, .int (nI (k + 1))), (4, .int 0), (0, .ref (ad 1)), (1, .int (nI i)), (2, .int (nI j)), (3, .int (nI k))]) hx hb dX3_brokenFoursFrom_6 hl (by decide) rfl (fun ls hl => ?_)
  have L8 : ∀ (k8 : Nat) (q : Nat) (a : Int32), q + k8 = n → lp (fun a l => if tgaV (d i j + d k l) (d i k + d j l) (d i l + d j k) = 0 then a + 1 else a) q k8 a = bffV n d i j k → ∀ (H : Heap) (locs : List Loc), Wd D 29 ad (cC cyI cO ad n d md go ke ha wy ab be sr) A s.heap H locs → ∀ ls : Array Slot, lv_has ls 6 [(5, .int (nI q)), (0, .ref (ad 1)), (1, .int (nI i)), (2, .int (nI j)), (3, .int (nI k)), (4, .int a)] → W p l e ({ frames := 2, cells := 0, slots := 0, locals := 49 } : Room) s m args below meth c H locs 0 0 (MQ below (uQ D 29 ad (cC cyI cO ad n d md go ke ha wy ab be sr) (some (.int (bffV n d i j k))) A) args s 0 0 A) (F0 m 8 ls []) := by
    intro k8
    induction k8 with
    | zero =>
      intro q a hq r8 H locs hW ls hl
      refine lv_iload hx hb dX3_brokenFoursFrom_8 (lv_at hl 0 rfl) ?_
      refine lv_aload_n hx hb dX3_brokenFoursFrom_10 rfl (lv_at hl 1 rfl) ?_
      refine u_get C hW inlX3 (by decide) cC_1 rfl 2 (by decide) mw_62 rfl dX3_brokenFoursFrom_11 ?_
      refine lv_icmp_ge (tgt := 86) hx hb dX3_brokenFoursFrom_14 (by decide) (fun _ => ?_) (fun c9 => absurd (nI_le (by omega) (by omega)) c9)
      refine lv_iload hx hb dX3_brokenFoursFrom_86 (lv_at hl 5 rfl) ?_
      exact u_iret C hr hW dX3_brokenFoursFrom_88 r8 rfl
    | succ k8 ih8 =>
      intro q a hq r8 H locs hW ls hl
      refine lv_iload hx hb dX3_brokenFoursFrom_8 (lv_at hl 0 rfl) ?_
      refine lv_aload_n hx hb dX3_brokenFoursFrom_10 rfl (lv_at hl 1 rfl) ?_
      refine u_get C hW inlX3 (by decide) cC_1 rfl 2 (by decide) mw_62 rfl dX3_brokenFoursFrom_11 ?_
      refine lv_icmp_ge (tgt := 86) hx hb dX3_brokenFoursFrom_14 (by decide) (fun c9 => absurd c9 (nI_ge (by omega) (by omega))) (fun _ => ?_)
      refine lv_aload_n hx hb dX3_brokenFoursFrom_17 rfl (lv_at hl 1 rfl) ?_
      refine u_get C hW inlX3 (by decide) cC_1 rfl 0 (by decide) mw_34 rfl dX3_brokenFoursFrom_18 ?_
      refine lv_iload_n hx hb dX3_brokenFoursFrom_21 rfl (lv_at hl 2 rfl) ?_
      refine u_aald C hW (by decide) cC_2 1 rfl i rfl (by omega) (by decide) (cC_outer (by omega)) dX3_brokenFoursFrom_22 ?_
      refine lv_iload_n hx hb dX3_brokenFoursFrom_23 rfl (lv_at hl 3 rfl) ?_
      refine u_iald C hW (by omega) (cC_d (by omega)) 0 rfl j rfl (by omega) (by decide) dX3_brokenFoursFrom_24 ?_
      refine lv_aload_n hx hb dX3_brokenFoursFrom_25 rfl (lv_at hl 1 rfl) ?_
      refine u_get C hW inlX3 (by decide) cC_1 rfl 0 (by decide) mw_34 rfl dX3_brokenFoursFrom_26 ?_
      refine lv_iload_n hx hb dX3_brokenFoursFrom_29 rfl (lv_at hl 4 rfl) ?_
      refine u_aald C hW (by decide) cC_2 1 rfl k rfl (by omega) (by decide) (cC_outer (by omega)) dX3_brokenFoursFrom_30 ?_
      refine lv_iload hx hb dX3_brokenFoursFrom_31 (lv_at hl 0 rfl) ?_
      refine u_iald C hW (by omega) (cC_d (by omega)) 0 rfl q rfl (by omega) (by decide) dX3_brokenFoursFrom_33 ?_
      refine lv_iadd hx hb dX3_brokenFoursFrom_34 ?_
      refine lv_aload_n hx hb dX3_brokenFoursFrom_35 rfl (lv_at hl 1 rfl) ?_
      refine u_get C hW inlX3 (by decide) cC_1 rfl 0 (by decide) mw_34 rfl dX3_brokenFoursFrom_36 ?_
      refine lv_iload_n hx hb dX3_brokenFoursFrom_39 rfl (lv_at hl 2 rfl) ?_
      refine u_aald C hW (by decide) cC_2 1 rfl i rfl (by omega) (by decide) (cC_outer (by omega)) dX3_brokenFoursFrom_40 ?_
      refine lv_iload_n hx hb dX3_brokenFoursFrom_41 rfl (lv_at hl 4 rfl) ?_
      refine u_iald C hW (by omega) (cC_d (by omega)) 0 rfl k rfl (by omega) (by decide) dX3_brokenFoursFrom_42 ?_
      refine lv_aload_n hx hb dX3_brokenFoursFrom_43 rfl (lv_at hl 1 rfl) ?_
      refine u_get C hW inlX3 (by decide) cC_1 rfl 0 (by decide) mw_34 rfl dX3_brokenFoursFrom_44 ?_
      refine lv_iload_n hx hb dX3_brokenFoursFrom_47 rfl (lv_at hl 3 rfl) ?_
      refine u_aald C hW (by decide) cC_2 1 rfl j rfl (by omega) (by decide) (cC_outer (by omega)) dX3_brokenFoursFrom_48 ?_
      refine lv_iload hx hb dX3_brokenFoursFrom_49 (lv_at hl 0 rfl) ?_
      refine u_iald C hW (by omega) (cC_d (by omega)) 0 rfl q rfl (by omega) (by decide) dX3_brokenFoursFrom_51 ?_
      refine lv_iadd hx hb dX3_brokenFoursFrom_52 ?_
      refine lv_aload_n hx hb dX3_brokenFoursFrom_53 rfl (lv_at hl 1 rfl) ?_
      refine u_get C hW inlX3 (by decide) cC_1 rfl 0 (by decide) mw_34 rfl dX3_brokenFoursFrom_54 ?_
      refine lv_iload_n hx hb dX3_brokenFoursFrom_57 rfl (lv_at hl 2 rfl) ?_
      refine u_aald C hW (by decide) cC_2 1 rfl i rfl (by omega) (by decide) (cC_outer (by omega)) dX3_brokenFoursFrom_58 ?_
      refine lv_iload hx hb dX3_brokenFoursFrom_59 (lv_at hl 0 rfl) ?_
      refine u_iald C hW (by omega) (cC_d (by omega)) 0 rfl q rfl (by omega) (by decide) dX3_brokenFoursFrom_61 ?_
      refine lv_aload_n hx hb dX3_brokenFoursFrom_62 rfl (lv_at hl 1 rfl) ?_
      refine u_get C hW inlX3 (by decide) cC_1 rfl 0 (by decide) mw_34 rfl dX3_brokenFoursFrom_63 ?_
      refine lv_iload_n hx hb dX3_brokenFoursFrom_66 rfl (lv_at hl 3 rfl) ?_
      refine u_aald C hW (by decide) cC_2 1 rfl j rfl (by omega) (by decide) (cC_outer (by omega)) dX3_brokenFoursFrom_67 ?_
      refine lv_iload_n hx hb dX3_brokenFoursFrom_68 rfl (lv_at hl 4 rfl) ?_
      refine u_iald C hW (by omega) (cC_d (by omega)) 0 rfl k rfl (by omega) (by decide) dX3_brokenFoursFrom_69 ?_
      refine lv_iadd hx hb dX3_brokenFoursFrom_70 ?_
      refine u_callS (cf' := cC cyI cO ad n d md go ke ha wy ab be sr) (As := [.int ((d i j) + (d k q)), .int ((d i k) + (d j q)), .int ((d i q) + (d j k))]) (rest := []) (st1 := [.int (tgaV ((d i j) + (d k q)) ((d i k) + (d j q)) ((d i q) + (d j k)))]) C hW (c_X3_twoGreatestAlike l D cyI cO cyZ ad fa n d md go ke ha wy ab be sr ((d i j) + (d k q)) ((d i k) + (d j q)) ((d i q) + (d j k)) ) ms_yX3_twoGreatestAlike mw_164 rfl ⟨rfl, rfl, Nat.le_of_ble_eq_true rfl, Nat.le_of_ble_eq_true rfl⟩ hl (Nat.le_of_ble_eq_true rfl) rfl rfl dX3_brokenFoursFrom_71 (fun H locs hW => ?_)
      refine lv_if_ne (tgt := 80) hx hb dX3_brokenFoursFrom_74 (by decide) (fun c74_1 => ?_) (fun c74_1 => ?_)
      · skip
        refine lv_iinc (v := nI (q + 1)) (lv' := [(5, .int (nI (q + 1))), (0, .ref (ad 1)), (1, .int (nI i)), (2, .int (nI j)), (3, .int (nI k)), (4, .int a)]) hx hb dX3_brokenFoursFrom_80 hl (k := 0) rfl (nI_1 _) (by decide) rfl (fun ls hl => ?_)
        refine lv_goto (tgt := 8) hx hb dX3_brokenFoursFrom_83 (by decide) ?_
        exact ih8  (q + 1) a (by omega) (by have h9 := r8; simp only [lp_s, lp_0, if_neg c74_1] at h9; exact h9) H locs hW ls (lv_sub hl [0, 1, 2, 3, 4, 5] rfl)
      · skip
        refine lv_iinc (v := a + 1) (lv' := [(4, .int (a + 1)), (5, .int (nI q)), (0, .ref (ad 1)), (1, .int (nI i)), (2, .int (nI j)), (3, .int (nI k))]) hx hb dX3_brokenFoursFrom_77 hl (k := 5) rfl rfl (by decide) rfl (fun ls hl => ?_)
        refine lv_iinc (v := nI (q + 1)) (lv' := [(5, .int (nI (q + 1))), (4, .int (a + 1)), (0, .ref (ad 1)), (1, .int (nI i)), (2, .int (nI j)), (3, .int (nI k))]) hx hb dX3_brokenFoursFrom_80 hl (k := 1) rfl (nI_1 _) (by decide) rfl (fun ls hl => ?_)
        refine lv_goto (tgt := 8) hx hb dX3_brokenFoursFrom_83 (by decide) ?_
        exact ih8  (q + 1) (a + 1) (by omega) (by have h9 := r8; simp only [lp_s, lp_0, if_pos c74_1] at h9; exact h9) H locs hW ls (lv_sub hl [0, 2, 3, 4, 5, 1] rfl)
  exact L8 (n - (k + 1)) (k + 1) 0 (by omega) rfl H locs hW ls (lv_sub hl [0, 2, 3, 4, 5, 1] rfl)
set_option maxHeartbeats 4000000 in
set_option maxRecDepth 100000 in
theorem c_X3_brokenFours (l : Launch) (D : va_G) (cyI cO cyZ : ClassId) (ad : Nat → Nat) (fa : Nat) (n : Nat) (d md : Nat → Nat → Int32) (go ke ha : Nat → Int32) (wy : Nat → Nat → Int32) (ab be sr : Int32)  (hn : n ≤ 6) : Ct l yX3_brokenFours (Cond.code yX3_brokenFours cX3_brokenFours 5 (some .int) :: wsL_law) ({ frames := 3, cells := 0, slots := 0, locals := 74 } : Room) D (ty3 cyI cO cyZ) 29 ad fa [.ref (ad 1)] (cC cyI cO ad n d md go ke ha wy ab be sr) (cC cyI cO ad n d md go ke ha wy ab be sr) (some (.int (bfV n d))) := by
  refine Ct.of (by decide) (Nat.le_of_ble_eq_true rfl) ?_
  intro p e s m args below meth c A C hr H locs hW ls hl
  have C : Cx p s m args meth c cX3_brokenFours 5 RX3 D (ty3 cyI cO cyZ) fa A := C
  have hx := C.1
  have hb := C.2.1
  have hl : lv_has ls 5 [(0, .ref (ad 1))] := hl
  refine lv_iconst (v := 0) hx hb dX3_brokenFours_0 (by decide) ?_
  refine lv_istore_n (lv' := [(1, .int 0), (0, .ref (ad 1))]) hx hb dX3_brokenFours_1 rfl hl (by decide) rfl (fun ls hl => ?_)
  refine lv_iconst (v := 0) hx hb dX3_brokenFours_2 (by decide) ?_
  refine lv_istore_n (lv' := [(2, .int 0), (1, .int 0), (0, .ref (ad 1))]) hx hb dX3_brokenFours_3 rfl hl (by decide) rfl (fun ls hl => ?_)
  have L4 : ∀ (k4 : Nat) (i : Nat) (a : Int32), i + k4 = n → lp (fun a i => lp (fun a j => lp (fun a k => a + bffV n d i j k) (j + 1) (n - (j + 1)) a) (i + 1) (n - (i + 1)) a) i k4 a = bfV n d → ∀ (H : Heap) (locs : List Loc), Wd D 29 ad (cC cyI cO ad n d md go ke ha wy ab be sr) A s.heap H locs → ∀ ls : Array Slot, lv_has ls 5 [(2, .int (nI i)), (0, .ref (ad 1)), (1, .int a)] → W p l e ({ frames := 3, cells := 0, slots := 0, locals := 74 } : Room) s m args below meth c H locs 0 0 (MQ below (uQ D 29 ad (cC cyI cO ad n d md go ke ha wy ab be sr) (some (.int (bfV n d))) A) args s 0 0 A) (F0 m 4 ls []) := by
    intro k4
    induction k4 with
    | zero =>
      intro i a hi r4 H locs hW ls hl
      refine lv_iload_n hx hb dX3_brokenFours_4 rfl (lv_at hl 0 rfl) ?_
      refine lv_aload_n hx hb dX3_brokenFours_5 rfl (lv_at hl 1 rfl) ?_
      refine u_get C hW inlX3 (by decide) cC_1 rfl 2 (by decide) mw_62 rfl dX3_brokenFours_6 ?_
      refine lv_icmp_ge (tgt := 67) hx hb dX3_brokenFours_9 (by decide) (fun _ => ?_) (fun c9 => absurd (nI_le (by omega) (by omega)) c9)
      refine lv_iload_n hx hb dX3_brokenFours_67 rfl (lv_at hl 2 rfl) ?_
      exact u_iret C hr hW dX3_brokenFours_68 r4 rfl
    | succ k4 ih4 =>
      intro i a hi r4 H locs hW ls hl
      refine lv_iload_n hx hb dX3_brokenFours_4 rfl (lv_at hl 0 rfl) ?_
      refine lv_aload_n hx hb dX3_brokenFours_5 rfl (lv_at hl 1 rfl) ?_
      refine u_get C hW inlX3 (by decide) cC_1 rfl 2 (by decide) mw_62 rfl dX3_brokenFours_6 ?_
      refine lv_icmp_ge (tgt := 67) hx hb dX3_brokenFours_9 (by decide) (fun c9 => absurd c9 (nI_ge (by omega) (by omega))) (fun _ => ?_)
      refine lv_iload_n hx hb dX3_brokenFours_12 rfl (lv_at hl 0 rfl) ?_
      refine lv_iconst (v := 1) hx hb dX3_brokenFours_13 (by decide) ?_
      refine lv_iadd hx hb dX3_brokenFours_14 ?_
      refine u_top (show (nI i) + 1 = nI (i + 1) from nI_add i 1) ?_
      refine lv_istore_n (lv' := [(3, .int (nI (i + 1))), (2, .int (nI i)), (0, .ref (ad 1)), (1, .int a)]) hx hb dX3_brokenFours_15 rfl hl (by decide) rfl (fun ls hl => ?_)
      have L16 : ∀ (k16 : Nat) (j : Nat) (a : Int32), j + k16 = n → lp (fun a i => lp (fun a j => lp (fun a k => a + bffV n d i j k) (j + 1) (n - (j + 1)) a) (i + 1) (n - (i + 1)) a) (i + 1) k4 (lp (fun a j => lp (fun a k => a + bffV n d i j k) (j + 1) (n - (j + 1)) a) j k16 a) = bfV n d → ∀ (H : Heap) (locs : List Loc), Wd D 29 ad (cC cyI cO ad n d md go ke ha wy ab be sr) A s.heap H locs → ∀ ls : Array Slot, lv_has ls 5 [(3, .int (nI j)), (0, .ref (ad 1)), (1, .int a), (2, .int (nI i))] → W p l e ({ frames := 3, cells := 0, slots := 0, locals := 74 } : Room) s m args below meth c H locs 0 0 (MQ below (uQ D 29 ad (cC cyI cO ad n d md go ke ha wy ab be sr) (some (.int (bfV n d))) A) args s 0 0 A) (F0 m 16 ls []) := by
        intro k16
        induction k16 with
        | zero =>
          intro j a hj r16 H locs hW ls hl
          refine lv_iload_n hx hb dX3_brokenFours_16 rfl (lv_at hl 0 rfl) ?_
          refine lv_aload_n hx hb dX3_brokenFours_17 rfl (lv_at hl 1 rfl) ?_
          refine u_get C hW inlX3 (by decide) cC_1 rfl 2 (by decide) mw_62 rfl dX3_brokenFours_18 ?_
          refine lv_icmp_ge (tgt := 61) hx hb dX3_brokenFours_21 (by decide) (fun _ => ?_) (fun c9 => absurd (nI_le (by omega) (by omega)) c9)
          refine lv_iinc (v := nI (i + 1)) (lv' := [(2, .int (nI (i + 1))), (3, .int (nI j)), (0, .ref (ad 1)), (1, .int a)]) hx hb dX3_brokenFours_61 hl (k := 3) rfl (nI_1 _) (by decide) rfl (fun ls hl => ?_)
          refine lv_goto (tgt := 4) hx hb dX3_brokenFours_64 (by decide) ?_
          exact ih4  (i + 1) a (by omega) r16 H locs hW ls (lv_sub hl [0, 2, 3] rfl)
        | succ k16 ih16 =>
          intro j a hj r16 H locs hW ls hl
          refine lv_iload_n hx hb dX3_brokenFours_16 rfl (lv_at hl 0 rfl) ?_
          refine lv_aload_n hx hb dX3_brokenFours_17 rfl (lv_at hl 1 rfl) ?_
          refine u_get C hW inlX3 (by decide) cC_1 rfl 2 (by decide) mw_62 rfl dX3_brokenFours_18 ?_
          refine lv_icmp_ge (tgt := 61) hx hb dX3_brokenFours_21 (by decide) (fun c9 => absurd c9 (nI_ge (by omega) (by omega))) (fun _ => ?_)
          refine lv_iload_n hx hb dX3_brokenFours_24 rfl (lv_at hl 0 rfl) ?_
          refine lv_iconst (v := 1) hx hb dX3_brokenFours_25 (by decide) ?_
          refine lv_iadd hx hb dX3_brokenFours_26 ?_
          refine u_top (show (nI j) + 1 = nI (j + 1) from nI_add j 1) ?_
          refine lv_istore (lv' := [(4, .int (nI (j + 1))), (3, .int (nI j)), (0, .ref (ad 1)), (1, .int a), (2, .int (nI i))]) hx hb dX3_brokenFours_27 hl (by decide) rfl (fun ls hl => ?_)
          have L29 : ∀ (k29 : Nat) (k : Nat) (a : Int32), k + k29 = n → lp (fun a i => lp (fun a j => lp (fun a k => a + bffV n d i j k) (j + 1) (n - (j + 1)) a) (i + 1) (n - (i + 1)) a) (i + 1) k4 (lp (fun a j => lp (fun a k => a + bffV n d i j k) (j + 1) (n - (j + 1)) a) (j + 1) k16 (lp (fun a k => a + bffV n d i j k) k k29 a)) = bfV n d → ∀ (H : Heap) (locs : List Loc), Wd D 29 ad (cC cyI cO ad n d md go ke ha wy ab be sr) A s.heap H locs → ∀ ls : Array Slot, lv_has ls 5 [(4, .int (nI k)), (0, .ref (ad 1)), (1, .int a), (2, .int (nI i)), (3, .int (nI j))] → W p l e ({ frames := 3, cells := 0, slots := 0, locals := 74 } : Room) s m args below meth c H locs 0 0 (MQ below (uQ D 29 ad (cC cyI cO ad n d md go ke ha wy ab be sr) (some (.int (bfV n d))) A) args s 0 0 A) (F0 m 29 ls []) := by
            intro k29
            induction k29 with
            | zero =>
              intro k a hk r29 H locs hW ls hl
              refine lv_iload hx hb dX3_brokenFours_29 (lv_at hl 0 rfl) ?_
              refine lv_aload_n hx hb dX3_brokenFours_31 rfl (lv_at hl 1 rfl) ?_
              refine u_get C hW inlX3 (by decide) cC_1 rfl 2 (by decide) mw_62 rfl dX3_brokenFours_32 ?_
              refine lv_icmp_ge (tgt := 55) hx hb dX3_brokenFours_35 (by decide) (fun _ => ?_) (fun c9 => absurd (nI_le (by omega) (by omega)) c9)
              refine lv_iinc (v := nI (j + 1)) (lv' := [(3, .int (nI (j + 1))), (4, .int (nI k)), (0, .ref (ad 1)), (1, .int a), (2, .int (nI i))]) hx hb dX3_brokenFours_55 hl (k := 4) rfl (nI_1 _) (by decide) rfl (fun ls hl => ?_)
              refine lv_goto (tgt := 16) hx hb dX3_brokenFours_58 (by decide) ?_
              exact ih16  (j + 1) a (by omega) r29 H locs hW ls (lv_sub hl [0, 2, 3, 4] rfl)
            | succ k29 ih29 =>
              intro k a hk r29 H locs hW ls hl
              refine lv_iload hx hb dX3_brokenFours_29 (lv_at hl 0 rfl) ?_
              refine lv_aload_n hx hb dX3_brokenFours_31 rfl (lv_at hl 1 rfl) ?_
              refine u_get C hW inlX3 (by decide) cC_1 rfl 2 (by decide) mw_62 rfl dX3_brokenFours_32 ?_
              refine lv_icmp_ge (tgt := 55) hx hb dX3_brokenFours_35 (by decide) (fun c9 => absurd c9 (nI_ge (by omega) (by omega))) (fun _ => ?_)
              refine lv_iload_n hx hb dX3_brokenFours_38 rfl (lv_at hl 2 rfl) ?_
              refine lv_aload_n hx hb dX3_brokenFours_39 rfl (lv_at hl 1 rfl) ?_
              refine lv_iload_n hx hb dX3_brokenFours_40 rfl (lv_at hl 3 rfl) ?_
              refine lv_iload_n hx hb dX3_brokenFours_41 rfl (lv_at hl 4 rfl) ?_
              refine lv_iload hx hb dX3_brokenFours_42 (lv_at hl 0 rfl) ?_
              refine u_callV (cf' := cC cyI cO ad n d md go ke ha wy ab be sr) (As := [.int (nI i), .int (nI j), .int (nI k)]) (rest := [.int a]) (st1 := [.int (bffV n d i j k), .int a]) C hW (c_X3_brokenFoursFrom l D cyI cO cyZ ad fa n d md go ke ha wy ab be sr i j k (by omega) (by omega) (by omega) (by omega)) mv_yX3_brokenFoursFrom mw_160 rfl ⟨rfl, rfl, Nat.le_of_ble_eq_true rfl, Nat.le_of_ble_eq_true rfl⟩ (by decide) cC_1 rfl rfl hl (Nat.le_of_ble_eq_true rfl) rfl rfl dX3_brokenFours_44 (fun H locs hW => ?_)
              refine lv_iadd hx hb dX3_brokenFours_47 ?_
              refine lv_istore_n (lv' := [(1, .int (a + (bffV n d i j k))), (4, .int (nI k)), (0, .ref (ad 1)), (2, .int (nI i)), (3, .int (nI j))]) hx hb dX3_brokenFours_48 rfl hl (by decide) rfl (fun ls hl => ?_)
              refine lv_iinc (v := nI (k + 1)) (lv' := [(4, .int (nI (k + 1))), (1, .int (a + (bffV n d i j k))), (0, .ref (ad 1)), (2, .int (nI i)), (3, .int (nI j))]) hx hb dX3_brokenFours_49 hl (k := 1) rfl (nI_1 _) (by decide) rfl (fun ls hl => ?_)
              refine lv_goto (tgt := 29) hx hb dX3_brokenFours_52 (by decide) ?_
              exact ih29  (k + 1) (a + (bffV n d i j k)) (by omega) r29 H locs hW ls (lv_sub hl [0, 2, 1, 3, 4] rfl)
          exact L29 (n - (j + 1)) (j + 1) a (by omega) r16 H locs hW ls (lv_sub hl [0, 2, 3, 4, 1] rfl)
      exact L16 (n - (i + 1)) (i + 1) a (by omega) r4 H locs hW ls (lv_sub hl [0, 2, 3, 1] rfl)
  exact L4 n 0 0 (by omega) rfl H locs hW ls (lv_sub hl [0, 2, 1] rfl)
set_option maxHeartbeats 4000000 in
set_option maxRecDepth 100000 in
theorem c_X3_shortenBy (l : Launch) (D : va_G) (cyI cO cyZ : ClassId) (ad : Nat → Nat) (fa : Nat) (n : Nat) (d md : Nat → Nat → Int32) (go ke ha : Nat → Int32) (wy : Nat → Nat → Int32) (ab be sr : Int32) (kk : Nat) (kd : Int32) (hn : n ≤ 6) (hk : kk < 6) : Ct l yX3_shortenBy (Cond.code yX3_shortenBy cX3_shortenBy 5 none :: wsL_law) ({ frames := 2, cells := 0, slots := 0, locals := 48 } : Room) D (ty3 cyI cO cyZ) 29 ad fa [.ref (ad 1), .int (nI kk), .int kd] (cC cyI cO ad n d md go ke ha wy ab be sr) (cC cyI cO ad n d (shV n md kk kd) go ke ha wy ab be sr) (none) := by
  refine Ct.of (by decide) (Nat.le_of_ble_eq_true rfl) ?_
  intro p e s m args below meth c A C hr H locs hW ls hl
  have C : Cx p s m args meth c cX3_shortenBy 5 RX3 D (ty3 cyI cO cyZ) fa A := C
  have hx := C.1
  have hb := C.2.1
  have hl : lv_has ls 5 [(0, .ref (ad 1)), (1, .int (nI kk)), (2, .int kd)] := hl
  refine lv_iconst (v := 0) hx hb dX3_shortenBy_0 (by decide) ?_
  refine lv_istore_n (lv' := [(3, .int 0), (0, .ref (ad 1)), (1, .int (nI kk)), (2, .int kd)]) hx hb dX3_shortenBy_1 rfl hl (by decide) rfl (fun ls hl => ?_)
  have L2 : ∀ (k2 : Nat) (i : Nat) (mm : Nat → Nat → Int32), i + k2 = n → lp (fun mm i => lp (fun mm j => u2 mm i j (mn (mm i j) (togV (mm i kk) (mm kk j) kd))) 0 n mm) i k2 mm = shV n md kk kd → ∀ (H : Heap) (locs : List Loc), Wd D 29 ad (cC cyI cO ad n d mm go ke ha wy ab be sr) A s.heap H locs → ∀ ls : Array Slot, lv_has ls 5 [(3, .int (nI i)), (0, .ref (ad 1)), (1, .int (nI kk)), (2, .int kd)] → W p l e ({ frames := 2, cells := 0, slots := 0, locals := 48 } : Room) s m args below meth c H locs 0 0 (MQ below (uQ D 29 ad (cC cyI cO ad n d (shV n md kk kd) go ke ha wy ab be sr) (none) A) args s 0 0 A) (F0 m 2 ls []) := by
    intro k2
    induction k2 with
    | zero =>
      intro i mm hi r2 H locs hW ls hl
      refine lv_iload_n hx hb dX3_shortenBy_2 rfl (lv_at hl 0 rfl) ?_
      refine lv_aload_n hx hb dX3_shortenBy_3 rfl (lv_at hl 1 rfl) ?_
      refine u_get C hW inlX3 (by decide) cC_1 rfl 2 (by decide) mw_62 rfl dX3_shortenBy_4 ?_
      refine lv_icmp_ge (tgt := 76) hx hb dX3_shortenBy_7 (by decide) (fun _ => ?_) (fun c9 => absurd (nI_le (by omega) (by omega)) c9)
      exact u_vret C hr hW dX3_shortenBy_76 (by rw [← r2]; rfl)
    | succ k2 ih2 =>
      intro i mm hi r2 H locs hW ls hl
      refine lv_iload_n hx hb dX3_shortenBy_2 rfl (lv_at hl 0 rfl) ?_
      refine lv_aload_n hx hb dX3_shortenBy_3 rfl (lv_at hl 1 rfl) ?_
      refine u_get C hW inlX3 (by decide) cC_1 rfl 2 (by decide) mw_62 rfl dX3_shortenBy_4 ?_
      refine lv_icmp_ge (tgt := 76) hx hb dX3_shortenBy_7 (by decide) (fun c9 => absurd c9 (nI_ge (by omega) (by omega))) (fun _ => ?_)
      refine lv_iconst (v := 0) hx hb dX3_shortenBy_10 (by decide) ?_
      refine lv_istore (lv' := [(4, .int 0), (3, .int (nI i)), (0, .ref (ad 1)), (1, .int (nI kk)), (2, .int kd)]) hx hb dX3_shortenBy_11 hl (by decide) rfl (fun ls hl => ?_)
      have L13 : ∀ (k13 : Nat) (j : Nat) (mm : Nat → Nat → Int32), j + k13 = n → lp (fun mm i => lp (fun mm j => u2 mm i j (mn (mm i j) (togV (mm i kk) (mm kk j) kd))) 0 n mm) (i + 1) k2 (lp (fun mm j => u2 mm i j (mn (mm i j) (togV (mm i kk) (mm kk j) kd))) j k13 mm) = shV n md kk kd → ∀ (H : Heap) (locs : List Loc), Wd D 29 ad (cC cyI cO ad n d mm go ke ha wy ab be sr) A s.heap H locs → ∀ ls : Array Slot, lv_has ls 5 [(4, .int (nI j)), (0, .ref (ad 1)), (1, .int (nI kk)), (2, .int kd), (3, .int (nI i))] → W p l e ({ frames := 2, cells := 0, slots := 0, locals := 48 } : Room) s m args below meth c H locs 0 0 (MQ below (uQ D 29 ad (cC cyI cO ad n d (shV n md kk kd) go ke ha wy ab be sr) (none) A) args s 0 0 A) (F0 m 13 ls []) := by
        intro k13
        induction k13 with
        | zero =>
          intro j mm hj r13 H locs hW ls hl
          refine lv_iload hx hb dX3_shortenBy_13 (lv_at hl 0 rfl) ?_
          refine lv_aload_n hx hb dX3_shortenBy_15 rfl (lv_at hl 1 rfl) ?_
          refine u_get C hW inlX3 (by decide) cC_1 rfl 2 (by decide) mw_62 rfl dX3_shortenBy_16 ?_
          refine lv_icmp_ge (tgt := 70) hx hb dX3_shortenBy_19 (by decide) (fun _ => ?_) (fun c9 => absurd (nI_le (by omega) (by omega)) c9)
          refine lv_iinc (v := nI (i + 1)) (lv' := [(3, .int (nI (i + 1))), (4, .int (nI j)), (0, .ref (ad 1)), (1, .int (nI kk)), (2, .int kd)]) hx hb dX3_shortenBy_70 hl (k := 4) rfl (nI_1 _) (by decide) rfl (fun ls hl => ?_)
          refine lv_goto (tgt := 2) hx hb dX3_shortenBy_73 (by decide) ?_
          exact ih2  (i + 1) mm (by omega) r13 H locs hW ls (lv_sub hl [0, 2, 3, 4] rfl)
        | succ k13 ih13 =>
          intro j mm hj r13 H locs hW ls hl
          refine lv_iload hx hb dX3_shortenBy_13 (lv_at hl 0 rfl) ?_
          refine lv_aload_n hx hb dX3_shortenBy_15 rfl (lv_at hl 1 rfl) ?_
          refine u_get C hW inlX3 (by decide) cC_1 rfl 2 (by decide) mw_62 rfl dX3_shortenBy_16 ?_
          refine lv_icmp_ge (tgt := 70) hx hb dX3_shortenBy_19 (by decide) (fun c9 => absurd c9 (nI_ge (by omega) (by omega))) (fun _ => ?_)
          refine lv_aload_n hx hb dX3_shortenBy_22 rfl (lv_at hl 1 rfl) ?_
          refine u_get C hW inlX3 (by decide) cC_1 rfl 1 (by decide) mw_35 rfl dX3_shortenBy_23 ?_
          refine lv_iload_n hx hb dX3_shortenBy_26 rfl (lv_at hl 4 rfl) ?_
          refine u_aald C hW (by decide) cC_9 1 rfl i rfl (by omega) (by decide) (cC_outer (by omega)) dX3_shortenBy_27 ?_
          refine lv_iload hx hb dX3_shortenBy_28 (lv_at hl 0 rfl) ?_
          refine lv_aload_n hx hb dX3_shortenBy_30 rfl (lv_at hl 1 rfl) ?_
          refine u_get C hW inlX3 (by decide) cC_1 rfl 1 (by decide) mw_35 rfl dX3_shortenBy_31 ?_
          refine lv_iload_n hx hb dX3_shortenBy_34 rfl (lv_at hl 4 rfl) ?_
          refine u_aald C hW (by decide) cC_9 1 rfl i rfl (by omega) (by decide) (cC_outer (by omega)) dX3_shortenBy_35 ?_
          refine lv_iload hx hb dX3_shortenBy_36 (lv_at hl 0 rfl) ?_
          refine u_iald C hW (by omega) (cC_m (by omega)) 0 rfl j rfl (by omega) (by decide) dX3_shortenBy_38 ?_
          refine lv_aload_n hx hb dX3_shortenBy_39 rfl (lv_at hl 1 rfl) ?_
          refine u_get C hW inlX3 (by decide) cC_1 rfl 1 (by decide) mw_35 rfl dX3_shortenBy_40 ?_
          refine lv_iload_n hx hb dX3_shortenBy_43 rfl (lv_at hl 4 rfl) ?_
          refine u_aald C hW (by decide) cC_9 1 rfl i rfl (by omega) (by decide) (cC_outer (by omega)) dX3_shortenBy_44 ?_
          refine lv_iload_n hx hb dX3_shortenBy_45 rfl (lv_at hl 2 rfl) ?_
          refine u_iald C hW (by omega) (cC_m (by omega)) 0 rfl kk rfl (by omega) (by decide) dX3_shortenBy_46 ?_
          refine lv_aload_n hx hb dX3_shortenBy_47 rfl (lv_at hl 1 rfl) ?_
          refine u_get C hW inlX3 (by decide) cC_1 rfl 1 (by decide) mw_35 rfl dX3_shortenBy_48 ?_
          refine lv_iload_n hx hb dX3_shortenBy_51 rfl (lv_at hl 2 rfl) ?_
          refine u_aald C hW (by decide) cC_9 1 rfl kk rfl (by omega) (by decide) (cC_outer (by omega)) dX3_shortenBy_52 ?_
          refine lv_iload hx hb dX3_shortenBy_53 (lv_at hl 0 rfl) ?_
          refine u_iald C hW (by omega) (cC_m (by omega)) 0 rfl j rfl (by omega) (by decide) dX3_shortenBy_55 ?_
          refine lv_iload_n hx hb dX3_shortenBy_56 rfl (lv_at hl 3 rfl) ?_
          refine u_callS (cf' := cC cyI cO ad n d mm go ke ha wy ab be sr) (As := [.int (mm i kk), .int (mm kk j), .int kd]) (rest := [.int (mm i j), .int (nI j), .ref (ad (10 + i))]) (st1 := [.int (togV (mm i kk) (mm kk j) kd), .int (mm i j), .int (nI j), .ref (ad (10 + i))]) C hW (c_X3_together l D cyI cO cyZ ad fa n d mm go ke ha wy ab be sr (mm i kk) (mm kk j) kd ) ms_yX3_together mw_142 rfl ⟨rfl, rfl, Nat.le_of_ble_eq_true rfl, Nat.le_of_ble_eq_true rfl⟩ hl (Nat.le_of_ble_eq_true rfl) rfl rfl dX3_shortenBy_57 (fun H locs hW => ?_)
          refine u_min C mw_206 hl (by decide) (Nat.le_of_ble_eq_true rfl) dX3_shortenBy_60 ?_
          refine u_top (y := mn (mm i j) (togV (mm i kk) (mm kk j) kd)) rfl ?_
          refine u_iast (cf' := cC cyI cO ad n d (u2 mm i j (mn (mm i j) (togV (mm i kk) (mm kk j) kd))) go ke ha wy ab be sr) C hW (by omega) (cC_m (by omega)) 0 rfl j rfl (by omega) (by decide) (cC_sm (by omega)) dX3_shortenBy_63 (fun H locs hW => ?_)
          refine lv_iinc (v := nI (j + 1)) (lv' := [(4, .int (nI (j + 1))), (0, .ref (ad 1)), (1, .int (nI kk)), (2, .int kd), (3, .int (nI i))]) hx hb dX3_shortenBy_64 hl (k := 0) rfl (nI_1 _) (by decide) rfl (fun ls hl => ?_)
          refine lv_goto (tgt := 13) hx hb dX3_shortenBy_67 (by decide) ?_
          exact ih13  (j + 1) (u2 mm i j (mn (mm i j) (togV (mm i kk) (mm kk j) kd))) (by omega) r13 H locs hW ls (lv_sub hl [0, 1, 2, 3, 4] rfl)
      exact L13 n 0 mm (by omega) r2 H locs hW ls (lv_sub hl [0, 2, 3, 4, 1] rfl)
  exact L2 n 0 md (by omega) rfl H locs hW ls (lv_sub hl [0, 1, 2, 3] rfl)
set_option maxHeartbeats 4000000 in
set_option maxRecDepth 100000 in
theorem c_X3_closed (l : Launch) (D : va_G) (cyI cO cyZ : ClassId) (ad : Nat → Nat) (fa : Nat) (n : Nat) (d md : Nat → Nat → Int32) (go ke ha : Nat → Int32) (wy : Nat → Nat → Int32) (ab be sr : Int32) (kd : Int32) (hn : n ≤ 6) : Ct l yX3_closed (Cond.code yX3_closed cX3_closed 3 (some (.array (.array .int))) :: wsL_law) ({ frames := 3, cells := 0, slots := 0, locals := 72 } : Room) D (ty3 cyI cO cyZ) 29 ad fa [.ref (ad 1), .int kd] (cC cyI cO ad n d md go ke ha wy ab be sr) (cC cyI cO ad n d (clV n d md kd) go ke ha wy ab be sr) (some (.ref (ad 9))) := by
  refine Ct.of (by decide) (Nat.le_of_ble_eq_true rfl) ?_
  intro p e s m args below meth c A C hr H locs hW ls hl
  have C : Cx p s m args meth c cX3_closed 3 RX3 D (ty3 cyI cO cyZ) fa A := C
  have hx := C.1
  have hb := C.2.1
  have hl : lv_has ls 3 [(0, .ref (ad 1)), (1, .int kd)] := hl
  refine lv_iconst (v := 0) hx hb dX3_closed_0 (by decide) ?_
  refine lv_istore_n (lv' := [(2, .int 0), (0, .ref (ad 1)), (1, .int kd)]) hx hb dX3_closed_1 rfl hl (by decide) rfl (fun ls hl => ?_)
  have L2 : ∀ (k2 : Nat) (i : Nat) (mm : Nat → Nat → Int32), i + k2 = n → lp (fun mm i => va_up mm i (va_cpy (d i) (mm i) 0 0 n)) i k2 mm = cpV n d md → ∀ (H : Heap) (locs : List Loc), Wd D 29 ad (cC cyI cO ad n d mm go ke ha wy ab be sr) A s.heap H locs → ∀ ls : Array Slot, lv_has ls 3 [(2, .int (nI i)), (0, .ref (ad 1)), (1, .int kd)] → W p l e ({ frames := 3, cells := 0, slots := 0, locals := 72 } : Room) s m args below meth c H locs 0 0 (MQ below (uQ D 29 ad (cC cyI cO ad n d (clV n d md kd) go ke ha wy ab be sr) (some (.ref (ad 9))) A) args s 0 0 A) (F0 m 2 ls []) := by
    intro k2
    induction k2 with
    | zero =>
      intro i mm hi r2 H locs hW ls hl
      refine lv_iload_n hx hb dX3_closed_2 rfl (lv_at hl 0 rfl) ?_
      refine lv_aload_n hx hb dX3_closed_3 rfl (lv_at hl 1 rfl) ?_
      refine u_get C hW inlX3 (by decide) cC_1 rfl 2 (by decide) mw_62 rfl dX3_closed_4 ?_
      refine lv_icmp_ge (tgt := 37) hx hb dX3_closed_7 (by decide) (fun _ => ?_) (fun c9 => absurd (nI_le (by omega) (by omega)) c9)
      refine lv_iconst (v := 0) hx hb dX3_closed_37 (by decide) ?_
      refine lv_istore_n (lv' := [(2, .int 0), (0, .ref (ad 1)), (1, .int kd)]) hx hb dX3_closed_38 rfl hl (by decide) rfl (fun ls hl => ?_)
      have L39 : ∀ (k39 : Nat) (k : Nat) (mm : Nat → Nat → Int32), k + k39 = n → lp (fun mm k => shV n mm k kd) k k39 mm = clV n d md kd → ∀ (H : Heap) (locs : List Loc), Wd D 29 ad (cC cyI cO ad n d mm go ke ha wy ab be sr) A s.heap H locs → ∀ ls : Array Slot, lv_has ls 3 [(2, .int (nI k)), (0, .ref (ad 1)), (1, .int kd)] → W p l e ({ frames := 3, cells := 0, slots := 0, locals := 72 } : Room) s m args below meth c H locs 0 0 (MQ below (uQ D 29 ad (cC cyI cO ad n d (clV n d md kd) go ke ha wy ab be sr) (some (.ref (ad 9))) A) args s 0 0 A) (F0 m 39 ls []) := by
        intro k39
        induction k39 with
        | zero =>
          intro k mm hk r39 H locs hW ls hl
          refine lv_iload_n hx hb dX3_closed_39 rfl (lv_at hl 0 rfl) ?_
          refine lv_aload_n hx hb dX3_closed_40 rfl (lv_at hl 1 rfl) ?_
          refine u_get C hW inlX3 (by decide) cC_1 rfl 2 (by decide) mw_62 rfl dX3_closed_41 ?_
          refine lv_icmp_ge (tgt := 59) hx hb dX3_closed_44 (by decide) (fun _ => ?_) (fun c9 => absurd (nI_le (by omega) (by omega)) c9)
          refine lv_aload_n hx hb dX3_closed_59 rfl (lv_at hl 1 rfl) ?_
          refine u_get C hW inlX3 (by decide) cC_1 rfl 1 (by decide) mw_35 rfl dX3_closed_60 ?_
          exact u_aret C hr (Or.inr ⟨_, rfl⟩) hW dX3_closed_63 (by rw [← r39]; rfl)
        | succ k39 ih39 =>
          intro k mm hk r39 H locs hW ls hl
          refine lv_iload_n hx hb dX3_closed_39 rfl (lv_at hl 0 rfl) ?_
          refine lv_aload_n hx hb dX3_closed_40 rfl (lv_at hl 1 rfl) ?_
          refine u_get C hW inlX3 (by decide) cC_1 rfl 2 (by decide) mw_62 rfl dX3_closed_41 ?_
          refine lv_icmp_ge (tgt := 59) hx hb dX3_closed_44 (by decide) (fun c9 => absurd c9 (nI_ge (by omega) (by omega))) (fun _ => ?_)
          refine lv_aload_n hx hb dX3_closed_47 rfl (lv_at hl 1 rfl) ?_
          refine lv_iload_n hx hb dX3_closed_48 rfl (lv_at hl 0 rfl) ?_
          refine lv_iload_n hx hb dX3_closed_49 rfl (lv_at hl 2 rfl) ?_
          refine u_callV (cf' := cC cyI cO ad n d (shV n mm k kd) go ke ha wy ab be sr) (As := [.int (nI k), .int kd]) (rest := []) (st1 := []) C hW (c_X3_shortenBy l D cyI cO cyZ ad fa n d mm go ke ha wy ab be sr k kd (by omega) (by omega)) mv_yX3_shortenBy mw_202 rfl ⟨rfl, rfl, Nat.le_of_ble_eq_true rfl, Nat.le_of_ble_eq_true rfl⟩ (by decide) cC_1 rfl rfl hl (Nat.le_of_ble_eq_true rfl) rfl rfl dX3_closed_50 (fun H locs hW => ?_)
          refine lv_iinc (v := nI (k + 1)) (lv' := [(2, .int (nI (k + 1))), (0, .ref (ad 1)), (1, .int kd)]) hx hb dX3_closed_53 hl (k := 0) rfl (nI_1 _) (by decide) rfl (fun ls hl => ?_)
          refine lv_goto (tgt := 39) hx hb dX3_closed_56 (by decide) ?_
          exact ih39  (k + 1) (shV n mm k kd) (by omega) r39 H locs hW ls (lv_sub hl [0, 1, 2] rfl)
      exact L39 n 0 mm (by omega) (by have h9 : mm = cpV n d md := r2; rw [h9]; rfl) H locs hW ls (lv_sub hl [0, 1, 2] rfl)
    | succ k2 ih2 =>
      intro i mm hi r2 H locs hW ls hl
      refine lv_iload_n hx hb dX3_closed_2 rfl (lv_at hl 0 rfl) ?_
      refine lv_aload_n hx hb dX3_closed_3 rfl (lv_at hl 1 rfl) ?_
      refine u_get C hW inlX3 (by decide) cC_1 rfl 2 (by decide) mw_62 rfl dX3_closed_4 ?_
      refine lv_icmp_ge (tgt := 37) hx hb dX3_closed_7 (by decide) (fun c9 => absurd c9 (nI_ge (by omega) (by omega))) (fun _ => ?_)
      refine lv_aload_n hx hb dX3_closed_10 rfl (lv_at hl 1 rfl) ?_
      refine u_get C hW inlX3 (by decide) cC_1 rfl 0 (by decide) mw_34 rfl dX3_closed_11 ?_
      refine lv_iload_n hx hb dX3_closed_14 rfl (lv_at hl 0 rfl) ?_
      refine u_aald C hW (by decide) cC_2 1 rfl i rfl (by omega) (by decide) (cC_outer (by omega)) dX3_closed_15 ?_
      refine lv_iconst (v := 0) hx hb dX3_closed_16 (by decide) ?_
      refine lv_aload_n hx hb dX3_closed_17 rfl (lv_at hl 1 rfl) ?_
      refine u_get C hW inlX3 (by decide) cC_1 rfl 1 (by decide) mw_35 rfl dX3_closed_18 ?_
      refine lv_iload_n hx hb dX3_closed_21 rfl (lv_at hl 0 rfl) ?_
      refine u_aald C hW (by decide) cC_9 1 rfl i rfl (by omega) (by decide) (cC_outer (by omega)) dX3_closed_22 ?_
      refine lv_iconst (v := 0) hx hb dX3_closed_23 (by decide) ?_
      refine lv_aload_n hx hb dX3_closed_24 rfl (lv_at hl 1 rfl) ?_
      refine u_get C hW inlX3 (by decide) cC_1 rfl 2 (by decide) mw_62 rfl dX3_closed_25 ?_
      refine u_copy (cf' := cC cyI cO ad n d (va_up mm i (va_cpy (d i) (mm i) 0 0 n)) go ke ha wy ab be sr) C hW mw_198 mw_199 mw_200 mw_201 hl (by omega) (by omega) (cC_d (by omega)) (cC_m (by omega)) 0 rfl hn (cC_sm (by omega)) (by decide) (Nat.le_of_ble_eq_true rfl) dX3_closed_28 (fun H locs hW => ?_)
      refine lv_iinc (v := nI (i + 1)) (lv' := [(2, .int (nI (i + 1))), (0, .ref (ad 1)), (1, .int kd)]) hx hb dX3_closed_31 hl (k := 0) rfl (nI_1 _) (by decide) rfl (fun ls hl => ?_)
      refine lv_goto (tgt := 2) hx hb dX3_closed_34 (by decide) ?_
      exact ih2  (i + 1) (va_up mm i (va_cpy (d i) (mm i) 0 0 n)) (by omega) r2 H locs hW ls (lv_sub hl [0, 1, 2] rfl)
  exact L2 n 0 md (by omega) rfl H locs hW ls (lv_sub hl [0, 1, 2] rfl)
set_option maxHeartbeats 4000000 in
set_option maxRecDepth 100000 in
theorem c_becomeM (l : Launch) (D : va_G) (cyI cO cyZ : ClassId) (ad : Nat → Nat) (fa : Nat) (n : Nat) (d md : Nat → Nat → Int32) (go ke ha : Nat → Int32) (wy : Nat → Nat → Int32) (ab be sr : Int32)  (hn : n ≤ 6) : Ct l yX3_become (Cond.code yX3_become cX3_become 5 (some .int) :: wsL_law) ({ frames := 1, cells := 0, slots := 0, locals := 23 } : Room) D (ty3 cyI cO cyZ) 29 ad fa [.ref (ad 1), .ref (ad 9)] (cC cyI cO ad n d md go ke ha wy ab be sr) (cC cyI cO ad n ((bcV n d md).2) md go ke ha wy ab be sr) (some (.int ((bcV n d md).1))) := by
  refine Ct.of (by decide) (Nat.le_of_ble_eq_true rfl) ?_
  intro p e s m args below meth c A C hr H locs hW ls hl
  have C : Cx p s m args meth c cX3_become 5 RX3 D (ty3 cyI cO cyZ) fa A := C
  have hx := C.1
  have hb := C.2.1
  have hl : lv_has ls 5 [(0, .ref (ad 1)), (1, .ref (ad 9))] := hl
  refine lv_iconst (v := 0) hx hb dX3_become_0 (by decide) ?_
  refine lv_istore_n (lv' := [(2, .int 0), (0, .ref (ad 1)), (1, .ref (ad 9))]) hx hb dX3_become_1 rfl hl (by decide) rfl (fun ls hl => ?_)
  refine lv_iconst (v := 0) hx hb dX3_become_2 (by decide) ?_
  refine lv_istore_n (lv' := [(3, .int 0), (2, .int 0), (0, .ref (ad 1)), (1, .ref (ad 9))]) hx hb dX3_become_3 rfl hl (by decide) rfl (fun ls hl => ?_)
  have L4 : ∀ (k4 : Nat) (i : Nat) (a : Int32) (dd : Nat → Nat → Int32), i + k4 = n → (lp (fun (p : Int32 × (Nat → Nat → Int32)) i => lp (fun p j => if p.2 i j = md i j then p else (p.1 + 1, putV p.2 i j (md i j))) (i + 1) (n - (i + 1)) p) i k4 (a, dd) = bcV n d md) → ∀ (H : Heap) (locs : List Loc), Wd D 29 ad (cC cyI cO ad n dd md go ke ha wy ab be sr) A s.heap H locs → ∀ ls : Array Slot, lv_has ls 5 [(3, .int (nI i)), (0, .ref (ad 1)), (1, .ref (ad 9)), (2, .int a)] → W p l e ({ frames := 1, cells := 0, slots := 0, locals := 23 } : Room) s m args below meth c H locs 0 0 (MQ below (uQ D 29 ad (cC cyI cO ad n ((bcV n d md).2) md go ke ha wy ab be sr) (some (.int ((bcV n d md).1))) A) args s 0 0 A) (F0 m 4 ls []) := by
    intro k4
    induction k4 with
    | zero =>
      intro i a dd hi r4 H locs hW ls hl
      refine lv_iload_n hx hb dX3_become_4 rfl (lv_at hl 0 rfl) ?_
      refine lv_aload_n hx hb dX3_become_5 rfl (lv_at hl 1 rfl) ?_
      refine u_get C hW inlX3 (by decide) cC_1 rfl 2 (by decide) mw_62 rfl dX3_become_6 ?_
      refine lv_icmp_ge (tgt := 72) hx hb dX3_become_9 (by decide) (fun _ => ?_) (fun c9 => absurd (nI_le (by omega) (by omega)) c9)
      refine lv_iload_n hx hb dX3_become_72 rfl (lv_at hl 3 rfl) ?_
      exact u_iret C hr hW dX3_become_73 (by rw [← r4]; rfl) (by rw [← r4]; rfl)
    | succ k4 ih4 =>
      intro i a dd hi r4 H locs hW ls hl
      refine lv_iload_n hx hb dX3_become_4 rfl (lv_at hl 0 rfl) ?_
      refine lv_aload_n hx hb dX3_become_5 rfl (lv_at hl 1 rfl) ?_
      refine u_get C hW inlX3 (by decide) cC_1 rfl 2 (by decide) mw_62 rfl dX3_become_6 ?_
      refine lv_icmp_ge (tgt := 72) hx hb dX3_become_9 (by decide) (fun c9 => absurd c9 (nI_ge (by omega) (by omega))) (fun _ => ?_)
      refine lv_iload_n hx hb dX3_become_12 rfl (lv_at hl 0 rfl) ?_
      refine lv_iconst (v := 1) hx hb dX3_become_13 (by decide) ?_
      refine lv_iadd hx hb dX3_become_14 ?_
      refine u_top (show (nI i) + 1 = nI (i + 1) from nI_add i 1) ?_
      refine lv_istore (lv' := [(4, .int (nI (i + 1))), (3, .int (nI i)), (0, .ref (ad 1)), (1, .ref (ad 9)), (2, .int a)]) hx hb dX3_become_15 hl (by decide) rfl (fun ls hl => ?_)
      have L17 : ∀ (k17 : Nat) (j : Nat) (a : Int32) (dd : Nat → Nat → Int32), j + k17 = n → (lp (fun (p : Int32 × (Nat → Nat → Int32)) i => lp (fun p j => if p.2 i j = md i j then p else (p.1 + 1, putV p.2 i j (md i j))) (i + 1) (n - (i + 1)) p) (i + 1) k4 (lp (fun p j => if p.2 i j = md i j then p else (p.1 + 1, putV p.2 i j (md i j))) j k17 (a, dd)) = bcV n d md) → ∀ (H : Heap) (locs : List Loc), Wd D 29 ad (cC cyI cO ad n dd md go ke ha wy ab be sr) A s.heap H locs → ∀ ls : Array Slot, lv_has ls 5 [(4, .int (nI j)), (0, .ref (ad 1)), (1, .ref (ad 9)), (2, .int a), (3, .int (nI i))] → W p l e ({ frames := 1, cells := 0, slots := 0, locals := 23 } : Room) s m args below meth c H locs 0 0 (MQ below (uQ D 29 ad (cC cyI cO ad n ((bcV n d md).2) md go ke ha wy ab be sr) (some (.int ((bcV n d md).1))) A) args s 0 0 A) (F0 m 17 ls []) := by
        intro k17
        induction k17 with
        | zero =>
          intro j a dd hj r17 H locs hW ls hl
          refine lv_iload hx hb dX3_become_17 (lv_at hl 0 rfl) ?_
          refine lv_aload_n hx hb dX3_become_19 rfl (lv_at hl 1 rfl) ?_
          refine u_get C hW inlX3 (by decide) cC_1 rfl 2 (by decide) mw_62 rfl dX3_become_20 ?_
          refine lv_icmp_ge (tgt := 66) hx hb dX3_become_23 (by decide) (fun _ => ?_) (fun c9 => absurd (nI_le (by omega) (by omega)) c9)
          refine lv_iinc (v := nI (i + 1)) (lv' := [(3, .int (nI (i + 1))), (4, .int (nI j)), (0, .ref (ad 1)), (1, .ref (ad 9)), (2, .int a)]) hx hb dX3_become_66 hl (k := 4) rfl (nI_1 _) (by decide) rfl (fun ls hl => ?_)
          refine lv_goto (tgt := 4) hx hb dX3_become_69 (by decide) ?_
          exact ih4  (i + 1) a dd (by omega) r17 H locs hW ls (lv_sub hl [0, 2, 3, 4] rfl)
        | succ k17 ih17 =>
          intro j a dd hj r17 H locs hW ls hl
          refine lv_iload hx hb dX3_become_17 (lv_at hl 0 rfl) ?_
          refine lv_aload_n hx hb dX3_become_19 rfl (lv_at hl 1 rfl) ?_
          refine u_get C hW inlX3 (by decide) cC_1 rfl 2 (by decide) mw_62 rfl dX3_become_20 ?_
          refine lv_icmp_ge (tgt := 66) hx hb dX3_become_23 (by decide) (fun c9 => absurd c9 (nI_ge (by omega) (by omega))) (fun _ => ?_)
          refine lv_aload_n hx hb dX3_become_26 rfl (lv_at hl 1 rfl) ?_
          refine u_get C hW inlX3 (by decide) cC_1 rfl 0 (by decide) mw_34 rfl dX3_become_27 ?_
          refine lv_iload_n hx hb dX3_become_30 rfl (lv_at hl 4 rfl) ?_
          refine u_aald C hW (by decide) cC_2 1 rfl i rfl (by omega) (by decide) (cC_outer (by omega)) dX3_become_31 ?_
          refine lv_iload hx hb dX3_become_32 (lv_at hl 0 rfl) ?_
          refine u_iald C hW (by omega) (cC_d (by omega)) 0 rfl j rfl (by omega) (by decide) dX3_become_34 ?_
          refine lv_aload_n hx hb dX3_become_35 rfl (lv_at hl 2 rfl) ?_
          refine lv_iload_n hx hb dX3_become_36 rfl (lv_at hl 4 rfl) ?_
          refine u_aald C hW (by decide) cC_9 1 rfl i rfl (by omega) (by decide) (cC_outer (by omega)) dX3_become_37 ?_
          refine lv_iload hx hb dX3_become_38 (lv_at hl 0 rfl) ?_
          refine u_iald C hW (by omega) (cC_m (by omega)) 0 rfl j rfl (by omega) (by decide) dX3_become_40 ?_
          refine lv_icmp_eq (tgt := 60) hx hb dX3_become_41 (by decide) (fun c41_1 => ?_) (fun c41_1 => ?_)
          · skip
            refine lv_iinc (v := nI (j + 1)) (lv' := [(4, .int (nI (j + 1))), (0, .ref (ad 1)), (1, .ref (ad 9)), (2, .int a), (3, .int (nI i))]) hx hb dX3_become_60 hl (k := 0) rfl (nI_1 _) (by decide) rfl (fun ls hl => ?_)
            refine lv_goto (tgt := 17) hx hb dX3_become_63 (by decide) ?_
            exact ih17  (j + 1) a dd (by omega) (by have h9 := r17; simp only [lp_s, lp_0, if_pos c41_1] at h9; exact h9) H locs hW ls (lv_sub hl [0, 1, 2, 3, 4] rfl)
          · skip
            refine lv_iinc (v := a + 1) (lv' := [(2, .int (a + 1)), (4, .int (nI j)), (0, .ref (ad 1)), (1, .ref (ad 9)), (3, .int (nI i))]) hx hb dX3_become_44 hl (k := 3) rfl rfl (by decide) rfl (fun ls hl => ?_)
            refine lv_aload_n hx hb dX3_become_47 rfl (lv_at hl 2 rfl) ?_
            refine lv_iload_n hx hb dX3_become_48 rfl (lv_at hl 4 rfl) ?_
            refine lv_iload hx hb dX3_become_49 (lv_at hl 1 rfl) ?_
            refine lv_aload_n hx hb dX3_become_51 rfl (lv_at hl 3 rfl) ?_
            refine lv_iload_n hx hb dX3_become_52 rfl (lv_at hl 4 rfl) ?_
            refine u_aald C hW (by decide) cC_9 1 rfl i rfl (by omega) (by decide) (cC_outer (by omega)) dX3_become_53 ?_
            refine lv_iload hx hb dX3_become_54 (lv_at hl 1 rfl) ?_
            refine u_iald C hW (by omega) (cC_m (by omega)) 0 rfl j rfl (by omega) (by decide) dX3_become_56 ?_
            refine u_callV (cf' := cC cyI cO ad n (putV dd i j (md i j)) md go ke ha wy ab be sr) (As := [.int (nI i), .int (nI j), .int (md i j)]) (rest := []) (st1 := []) C hW (c_X3_put l D cyI cO cyZ ad fa n dd md go ke ha wy ab be sr i j (md i j) (by omega) (by omega)) mv_yX3_put mw_213 rfl ⟨rfl, rfl, Nat.le_of_ble_eq_true rfl, Nat.le_of_ble_eq_true rfl⟩ (by decide) cC_1 rfl rfl hl (Nat.le_of_ble_eq_true rfl) rfl rfl dX3_become_57 (fun H locs hW => ?_)
            refine lv_iinc (v := nI (j + 1)) (lv' := [(4, .int (nI (j + 1))), (2, .int (a + 1)), (0, .ref (ad 1)), (1, .ref (ad 9)), (3, .int (nI i))]) hx hb dX3_become_60 hl (k := 1) rfl (nI_1 _) (by decide) rfl (fun ls hl => ?_)
            refine lv_goto (tgt := 17) hx hb dX3_become_63 (by decide) ?_
            exact ih17  (j + 1) (a + 1) (putV dd i j (md i j)) (by omega) (by have h9 := r17; simp only [lp_s, lp_0, if_neg c41_1] at h9; exact h9) H locs hW ls (lv_sub hl [0, 2, 3, 1, 4] rfl)
      exact L17 (n - (i + 1)) (i + 1) a dd (by omega) r4 H locs hW ls (lv_sub hl [0, 2, 3, 4, 1] rfl)
  exact L4 n 0 0 d (by omega) rfl H locs hW ls (lv_sub hl [0, 2, 3, 1] rfl)
set_option maxHeartbeats 4000000 in
set_option maxRecDepth 100000 in
theorem c_becomeW (l : Launch) (D : va_G) (cyI cO cyZ : ClassId) (ad : Nat → Nat) (fa : Nat) (n : Nat) (d md : Nat → Nat → Int32) (go ke ha : Nat → Int32) (wy : Nat → Nat → Int32) (ab be sr : Int32)  (hn : n ≤ 6) : Ct l yX3_become (Cond.code yX3_become cX3_become 5 (some .int) :: wsL_law) ({ frames := 1, cells := 0, slots := 0, locals := 23 } : Room) D (ty3 cyI cO cyZ) 29 ad fa [.ref (ad 1), .ref (ad 20)] (cC cyI cO ad n d md go ke ha wy ab be sr) (cC cyI cO ad n ((bcV n d wy).2) md go ke ha wy ab be sr) (some (.int ((bcV n d wy).1))) := by
  refine Ct.of (by decide) (Nat.le_of_ble_eq_true rfl) ?_
  intro p e s m args below meth c A C hr H locs hW ls hl
  have C : Cx p s m args meth c cX3_become 5 RX3 D (ty3 cyI cO cyZ) fa A := C
  have hx := C.1
  have hb := C.2.1
  have hl : lv_has ls 5 [(0, .ref (ad 1)), (1, .ref (ad 20))] := hl
  refine lv_iconst (v := 0) hx hb dX3_become_0 (by decide) ?_
  refine lv_istore_n (lv' := [(2, .int 0), (0, .ref (ad 1)), (1, .ref (ad 20))]) hx hb dX3_become_1 rfl hl (by decide) rfl (fun ls hl => ?_)
  refine lv_iconst (v := 0) hx hb dX3_become_2 (by decide) ?_
  refine lv_istore_n (lv' := [(3, .int 0), (2, .int 0), (0, .ref (ad 1)), (1, .ref (ad 20))]) hx hb dX3_become_3 rfl hl (by decide) rfl (fun ls hl => ?_)
  have L4 : ∀ (k4 : Nat) (i : Nat) (a : Int32) (dd : Nat → Nat → Int32), i + k4 = n → (lp (fun (p : Int32 × (Nat → Nat → Int32)) i => lp (fun p j => if p.2 i j = wy i j then p else (p.1 + 1, putV p.2 i j (wy i j))) (i + 1) (n - (i + 1)) p) i k4 (a, dd) = bcV n d wy) → ∀ (H : Heap) (locs : List Loc), Wd D 29 ad (cC cyI cO ad n dd md go ke ha wy ab be sr) A s.heap H locs → ∀ ls : Array Slot, lv_has ls 5 [(3, .int (nI i)), (0, .ref (ad 1)), (1, .ref (ad 20)), (2, .int a)] → W p l e ({ frames := 1, cells := 0, slots := 0, locals := 23 } : Room) s m args below meth c H locs 0 0 (MQ below (uQ D 29 ad (cC cyI cO ad n ((bcV n d wy).2) md go ke ha wy ab be sr) (some (.int ((bcV n d wy).1))) A) args s 0 0 A) (F0 m 4 ls []) := by
    intro k4
    induction k4 with
    | zero =>
      intro i a dd hi r4 H locs hW ls hl
      refine lv_iload_n hx hb dX3_become_4 rfl (lv_at hl 0 rfl) ?_
      refine lv_aload_n hx hb dX3_become_5 rfl (lv_at hl 1 rfl) ?_
      refine u_get C hW inlX3 (by decide) cC_1 rfl 2 (by decide) mw_62 rfl dX3_become_6 ?_
      refine lv_icmp_ge (tgt := 72) hx hb dX3_become_9 (by decide) (fun _ => ?_) (fun c9 => absurd (nI_le (by omega) (by omega)) c9)
      refine lv_iload_n hx hb dX3_become_72 rfl (lv_at hl 3 rfl) ?_
      exact u_iret C hr hW dX3_become_73 (by rw [← r4]; rfl) (by rw [← r4]; rfl)
    | succ k4 ih4 =>
      intro i a dd hi r4 H locs hW ls hl
      refine lv_iload_n hx hb dX3_become_4 rfl (lv_at hl 0 rfl) ?_
      refine lv_aload_n hx hb dX3_become_5 rfl (lv_at hl 1 rfl) ?_
      refine u_get C hW inlX3 (by decide) cC_1 rfl 2 (by decide) mw_62 rfl dX3_become_6 ?_
      refine lv_icmp_ge (tgt := 72) hx hb dX3_become_9 (by decide) (fun c9 => absurd c9 (nI_ge (by omega) (by omega))) (fun _ => ?_)
      refine lv_iload_n hx hb dX3_become_12 rfl (lv_at hl 0 rfl) ?_
      refine lv_iconst (v := 1) hx hb dX3_become_13 (by decide) ?_
      refine lv_iadd hx hb dX3_become_14 ?_
      refine u_top (show (nI i) + 1 = nI (i + 1) from nI_add i 1) ?_
      refine lv_istore (lv' := [(4, .int (nI (i + 1))), (3, .int (nI i)), (0, .ref (ad 1)), (1, .ref (ad 20)), (2, .int a)]) hx hb dX3_become_15 hl (by decide) rfl (fun ls hl => ?_)
      have L17 : ∀ (k17 : Nat) (j : Nat) (a : Int32) (dd : Nat → Nat → Int32), j + k17 = n → (lp (fun (p : Int32 × (Nat → Nat → Int32)) i => lp (fun p j => if p.2 i j = wy i j then p else (p.1 + 1, putV p.2 i j (wy i j))) (i + 1) (n - (i + 1)) p) (i + 1) k4 (lp (fun p j => if p.2 i j = wy i j then p else (p.1 + 1, putV p.2 i j (wy i j))) j k17 (a, dd)) = bcV n d wy) → ∀ (H : Heap) (locs : List Loc), Wd D 29 ad (cC cyI cO ad n dd md go ke ha wy ab be sr) A s.heap H locs → ∀ ls : Array Slot, lv_has ls 5 [(4, .int (nI j)), (0, .ref (ad 1)), (1, .ref (ad 20)), (2, .int a), (3, .int (nI i))] → W p l e ({ frames := 1, cells := 0, slots := 0, locals := 23 } : Room) s m args below meth c H locs 0 0 (MQ below (uQ D 29 ad (cC cyI cO ad n ((bcV n d wy).2) md go ke ha wy ab be sr) (some (.int ((bcV n d wy).1))) A) args s 0 0 A) (F0 m 17 ls []) := by
        intro k17
        induction k17 with
        | zero =>
          intro j a dd hj r17 H locs hW ls hl
          refine lv_iload hx hb dX3_become_17 (lv_at hl 0 rfl) ?_
          refine lv_aload_n hx hb dX3_become_19 rfl (lv_at hl 1 rfl) ?_
          refine u_get C hW inlX3 (by decide) cC_1 rfl 2 (by decide) mw_62 rfl dX3_become_20 ?_
          refine lv_icmp_ge (tgt := 66) hx hb dX3_become_23 (by decide) (fun _ => ?_) (fun c9 => absurd (nI_le (by omega) (by omega)) c9)
          refine lv_iinc (v := nI (i + 1)) (lv' := [(3, .int (nI (i + 1))), (4, .int (nI j)), (0, .ref (ad 1)), (1, .ref (ad 20)), (2, .int a)]) hx hb dX3_become_66 hl (k := 4) rfl (nI_1 _) (by decide) rfl (fun ls hl => ?_)
          refine lv_goto (tgt := 4) hx hb dX3_become_69 (by decide) ?_
          exact ih4  (i + 1) a dd (by omega) r17 H locs hW ls (lv_sub hl [0, 2, 3, 4] rfl)
        | succ k17 ih17 =>
          intro j a dd hj r17 H locs hW ls hl
          refine lv_iload hx hb dX3_become_17 (lv_at hl 0 rfl) ?_
          refine lv_aload_n hx hb dX3_become_19 rfl (lv_at hl 1 rfl) ?_
          refine u_get C hW inlX3 (by decide) cC_1 rfl 2 (by decide) mw_62 rfl dX3_become_20 ?_
          refine lv_icmp_ge (tgt := 66) hx hb dX3_become_23 (by decide) (fun c9 => absurd c9 (nI_ge (by omega) (by omega))) (fun _ => ?_)
          refine lv_aload_n hx hb dX3_become_26 rfl (lv_at hl 1 rfl) ?_
          refine u_get C hW inlX3 (by decide) cC_1 rfl 0 (by decide) mw_34 rfl dX3_become_27 ?_
          refine lv_iload_n hx hb dX3_become_30 rfl (lv_at hl 4 rfl) ?_
          refine u_aald C hW (by decide) cC_2 1 rfl i rfl (by omega) (by decide) (cC_outer (by omega)) dX3_become_31 ?_
          refine lv_iload hx hb dX3_become_32 (lv_at hl 0 rfl) ?_
          refine u_iald C hW (by omega) (cC_d (by omega)) 0 rfl j rfl (by omega) (by decide) dX3_become_34 ?_
          refine lv_aload_n hx hb dX3_become_35 rfl (lv_at hl 2 rfl) ?_
          refine lv_iload_n hx hb dX3_become_36 rfl (lv_at hl 4 rfl) ?_
          refine u_aald C hW (by decide) cC_20 1 rfl i rfl (by omega) (by decide) (cC_outer (by omega)) dX3_become_37 ?_
          refine lv_iload hx hb dX3_become_38 (lv_at hl 0 rfl) ?_
          refine u_iald C hW (by omega) (cC_w (by omega)) 0 rfl j rfl (by omega) (by decide) dX3_become_40 ?_
          refine lv_icmp_eq (tgt := 60) hx hb dX3_become_41 (by decide) (fun c41_1 => ?_) (fun c41_1 => ?_)
          · skip
            refine lv_iinc (v := nI (j + 1)) (lv' := [(4, .int (nI (j + 1))), (0, .ref (ad 1)), (1, .ref (ad 20)), (2, .int a), (3, .int (nI i))]) hx hb dX3_become_60 hl (k := 0) rfl (nI_1 _) (by decide) rfl (fun ls hl => ?_)
            refine lv_goto (tgt := 17) hx hb dX3_become_63 (by decide) ?_
            exact ih17  (j + 1) a dd (by omega) (by have h9 := r17; simp only [lp_s, lp_0, if_pos c41_1] at h9; exact h9) H locs hW ls (lv_sub hl [0, 1, 2, 3, 4] rfl)
          · skip
            refine lv_iinc (v := a + 1) (lv' := [(2, .int (a + 1)), (4, .int (nI j)), (0, .ref (ad 1)), (1, .ref (ad 20)), (3, .int (nI i))]) hx hb dX3_become_44 hl (k := 3) rfl rfl (by decide) rfl (fun ls hl => ?_)
            refine lv_aload_n hx hb dX3_become_47 rfl (lv_at hl 2 rfl) ?_
            refine lv_iload_n hx hb dX3_become_48 rfl (lv_at hl 4 rfl) ?_
            refine lv_iload hx hb dX3_become_49 (lv_at hl 1 rfl) ?_
            refine lv_aload_n hx hb dX3_become_51 rfl (lv_at hl 3 rfl) ?_
            refine lv_iload_n hx hb dX3_become_52 rfl (lv_at hl 4 rfl) ?_
            refine u_aald C hW (by decide) cC_20 1 rfl i rfl (by omega) (by decide) (cC_outer (by omega)) dX3_become_53 ?_
            refine lv_iload hx hb dX3_become_54 (lv_at hl 1 rfl) ?_
            refine u_iald C hW (by omega) (cC_w (by omega)) 0 rfl j rfl (by omega) (by decide) dX3_become_56 ?_
            refine u_callV (cf' := cC cyI cO ad n (putV dd i j (wy i j)) md go ke ha wy ab be sr) (As := [.int (nI i), .int (nI j), .int (wy i j)]) (rest := []) (st1 := []) C hW (c_X3_put l D cyI cO cyZ ad fa n dd md go ke ha wy ab be sr i j (wy i j) (by omega) (by omega)) mv_yX3_put mw_213 rfl ⟨rfl, rfl, Nat.le_of_ble_eq_true rfl, Nat.le_of_ble_eq_true rfl⟩ (by decide) cC_1 rfl rfl hl (Nat.le_of_ble_eq_true rfl) rfl rfl dX3_become_57 (fun H locs hW => ?_)
            refine lv_iinc (v := nI (j + 1)) (lv' := [(4, .int (nI (j + 1))), (2, .int (a + 1)), (0, .ref (ad 1)), (1, .ref (ad 20)), (3, .int (nI i))]) hx hb dX3_become_60 hl (k := 1) rfl (nI_1 _) (by decide) rfl (fun ls hl => ?_)
            refine lv_goto (tgt := 17) hx hb dX3_become_63 (by decide) ?_
            exact ih17  (j + 1) (a + 1) (putV dd i j (wy i j)) (by omega) (by have h9 := r17; simp only [lp_s, lp_0, if_neg c41_1] at h9; exact h9) H locs hW ls (lv_sub hl [0, 2, 3, 1, 4] rfl)
      exact L17 (n - (i + 1)) (i + 1) a dd (by omega) r4 H locs hW ls (lv_sub hl [0, 2, 3, 4, 1] rfl)
  exact L4 n 0 0 d (by omega) rfl H locs hW ls (lv_sub hl [0, 2, 3, 1] rfl)
set_option maxHeartbeats 4000000 in
set_option maxRecDepth 100000 in
theorem c_greatestAbove (l : Launch) (D : va_G) (cyI cO cyZ : ClassId) (ad : Nat → Nat) (fa : Nat) (n : Nat) (d md : Nat → Nat → Int32) (go ke ha : Nat → Int32) (wy : Nat → Nat → Int32) (ab be sr : Int32)  (hn : n ≤ 6) : Ct l yX3_greatestAbove (Cond.code yX3_greatestAbove cX3_greatestAbove 5 (some .int) :: wsL_law) ({ frames := 1, cells := 0, slots := 0, locals := 26 } : Room) D (ty3 cyI cO cyZ) 29 ad fa [.ref (ad 1), .ref (ad 9)] (cC cyI cO ad n d md go ke ha wy ab be sr) (cC cyI cO ad n d md go ke ha wy ab be sr) (some (.int (gaV n d md))) := by
  refine Ct.of (by decide) (Nat.le_of_ble_eq_true rfl) ?_
  intro p e s m args below meth c A C hr H locs hW ls hl
  have C : Cx p s m args meth c cX3_greatestAbove 5 RX3 D (ty3 cyI cO cyZ) fa A := C
  have hx := C.1
  have hb := C.2.1
  have hl : lv_has ls 5 [(0, .ref (ad 1)), (1, .ref (ad 9))] := hl
  refine lv_iconst (v := 0) hx hb dX3_greatestAbove_0 (by decide) ?_
  refine lv_istore_n (lv' := [(2, .int 0), (0, .ref (ad 1)), (1, .ref (ad 9))]) hx hb dX3_greatestAbove_1 rfl hl (by decide) rfl (fun ls hl => ?_)
  refine lv_iconst (v := 0) hx hb dX3_greatestAbove_2 (by decide) ?_
  refine lv_istore_n (lv' := [(3, .int 0), (2, .int 0), (0, .ref (ad 1)), (1, .ref (ad 9))]) hx hb dX3_greatestAbove_3 rfl hl (by decide) rfl (fun ls hl => ?_)
  have L4 : ∀ (k4 : Nat) (i : Nat) (a : Int32), i + k4 = n → lp (fun a i => lp (fun a j => mx a (d i j - md i j)) (i + 1) (n - (i + 1)) a) i k4 a = gaV n d md → ∀ (H : Heap) (locs : List Loc), Wd D 29 ad (cC cyI cO ad n d md go ke ha wy ab be sr) A s.heap H locs → ∀ ls : Array Slot, lv_has ls 5 [(3, .int (nI i)), (0, .ref (ad 1)), (1, .ref (ad 9)), (2, .int a)] → W p l e ({ frames := 1, cells := 0, slots := 0, locals := 26 } : Room) s m args below meth c H locs 0 0 (MQ below (uQ D 29 ad (cC cyI cO ad n d md go ke ha wy ab be sr) (some (.int (gaV n d md))) A) args s 0 0 A) (F0 m 4 ls []) := by
    intro k4
    induction k4 with
    | zero =>
      intro i a hi r4 H locs hW ls hl
      refine lv_iload_n hx hb dX3_greatestAbove_4 rfl (lv_at hl 0 rfl) ?_
      refine lv_aload_n hx hb dX3_greatestAbove_5 rfl (lv_at hl 1 rfl) ?_
      refine u_get C hW inlX3 (by decide) cC_1 rfl 2 (by decide) mw_62 rfl dX3_greatestAbove_6 ?_
      refine lv_icmp_ge (tgt := 59) hx hb dX3_greatestAbove_9 (by decide) (fun _ => ?_) (fun c9 => absurd (nI_le (by omega) (by omega)) c9)
      refine lv_iload_n hx hb dX3_greatestAbove_59 rfl (lv_at hl 3 rfl) ?_
      exact u_iret C hr hW dX3_greatestAbove_60 r4 rfl
    | succ k4 ih4 =>
      intro i a hi r4 H locs hW ls hl
      refine lv_iload_n hx hb dX3_greatestAbove_4 rfl (lv_at hl 0 rfl) ?_
      refine lv_aload_n hx hb dX3_greatestAbove_5 rfl (lv_at hl 1 rfl) ?_
      refine u_get C hW inlX3 (by decide) cC_1 rfl 2 (by decide) mw_62 rfl dX3_greatestAbove_6 ?_
      refine lv_icmp_ge (tgt := 59) hx hb dX3_greatestAbove_9 (by decide) (fun c9 => absurd c9 (nI_ge (by omega) (by omega))) (fun _ => ?_)
      refine lv_iload_n hx hb dX3_greatestAbove_12 rfl (lv_at hl 0 rfl) ?_
      refine lv_iconst (v := 1) hx hb dX3_greatestAbove_13 (by decide) ?_
      refine lv_iadd hx hb dX3_greatestAbove_14 ?_
      refine u_top (show (nI i) + 1 = nI (i + 1) from nI_add i 1) ?_
      refine lv_istore (lv' := [(4, .int (nI (i + 1))), (3, .int (nI i)), (0, .ref (ad 1)), (1, .ref (ad 9)), (2, .int a)]) hx hb dX3_greatestAbove_15 hl (by decide) rfl (fun ls hl => ?_)
      have L17 : ∀ (k17 : Nat) (j : Nat) (a : Int32), j + k17 = n → lp (fun a i => lp (fun a j => mx a (d i j - md i j)) (i + 1) (n - (i + 1)) a) (i + 1) k4 (lp (fun a j => mx a (d i j - md i j)) j k17 a) = gaV n d md → ∀ (H : Heap) (locs : List Loc), Wd D 29 ad (cC cyI cO ad n d md go ke ha wy ab be sr) A s.heap H locs → ∀ ls : Array Slot, lv_has ls 5 [(4, .int (nI j)), (0, .ref (ad 1)), (1, .ref (ad 9)), (2, .int a), (3, .int (nI i))] → W p l e ({ frames := 1, cells := 0, slots := 0, locals := 26 } : Room) s m args below meth c H locs 0 0 (MQ below (uQ D 29 ad (cC cyI cO ad n d md go ke ha wy ab be sr) (some (.int (gaV n d md))) A) args s 0 0 A) (F0 m 17 ls []) := by
        intro k17
        induction k17 with
        | zero =>
          intro j a hj r17 H locs hW ls hl
          refine lv_iload hx hb dX3_greatestAbove_17 (lv_at hl 0 rfl) ?_
          refine lv_aload_n hx hb dX3_greatestAbove_19 rfl (lv_at hl 1 rfl) ?_
          refine u_get C hW inlX3 (by decide) cC_1 rfl 2 (by decide) mw_62 rfl dX3_greatestAbove_20 ?_
          refine lv_icmp_ge (tgt := 53) hx hb dX3_greatestAbove_23 (by decide) (fun _ => ?_) (fun c9 => absurd (nI_le (by omega) (by omega)) c9)
          refine lv_iinc (v := nI (i + 1)) (lv' := [(3, .int (nI (i + 1))), (4, .int (nI j)), (0, .ref (ad 1)), (1, .ref (ad 9)), (2, .int a)]) hx hb dX3_greatestAbove_53 hl (k := 4) rfl (nI_1 _) (by decide) rfl (fun ls hl => ?_)
          refine lv_goto (tgt := 4) hx hb dX3_greatestAbove_56 (by decide) ?_
          exact ih4  (i + 1) a (by omega) r17 H locs hW ls (lv_sub hl [0, 2, 3, 4] rfl)
        | succ k17 ih17 =>
          intro j a hj r17 H locs hW ls hl
          refine lv_iload hx hb dX3_greatestAbove_17 (lv_at hl 0 rfl) ?_
          refine lv_aload_n hx hb dX3_greatestAbove_19 rfl (lv_at hl 1 rfl) ?_
          refine u_get C hW inlX3 (by decide) cC_1 rfl 2 (by decide) mw_62 rfl dX3_greatestAbove_20 ?_
          refine lv_icmp_ge (tgt := 53) hx hb dX3_greatestAbove_23 (by decide) (fun c9 => absurd c9 (nI_ge (by omega) (by omega))) (fun _ => ?_)
          refine lv_iload_n hx hb dX3_greatestAbove_26 rfl (lv_at hl 3 rfl) ?_
          refine lv_aload_n hx hb dX3_greatestAbove_27 rfl (lv_at hl 1 rfl) ?_
          refine u_get C hW inlX3 (by decide) cC_1 rfl 0 (by decide) mw_34 rfl dX3_greatestAbove_28 ?_
          refine lv_iload_n hx hb dX3_greatestAbove_31 rfl (lv_at hl 4 rfl) ?_
          refine u_aald C hW (by decide) cC_2 1 rfl i rfl (by omega) (by decide) (cC_outer (by omega)) dX3_greatestAbove_32 ?_
          refine lv_iload hx hb dX3_greatestAbove_33 (lv_at hl 0 rfl) ?_
          refine u_iald C hW (by omega) (cC_d (by omega)) 0 rfl j rfl (by omega) (by decide) dX3_greatestAbove_35 ?_
          refine lv_aload_n hx hb dX3_greatestAbove_36 rfl (lv_at hl 2 rfl) ?_
          refine lv_iload_n hx hb dX3_greatestAbove_37 rfl (lv_at hl 4 rfl) ?_
          refine u_aald C hW (by decide) cC_9 1 rfl i rfl (by omega) (by decide) (cC_outer (by omega)) dX3_greatestAbove_38 ?_
          refine lv_iload hx hb dX3_greatestAbove_39 (lv_at hl 0 rfl) ?_
          refine u_iald C hW (by omega) (cC_m (by omega)) 0 rfl j rfl (by omega) (by decide) dX3_greatestAbove_41 ?_
          refine lv_isub hx hb dX3_greatestAbove_42 ?_
          refine u_max C mw_145 hl (by decide) (Nat.le_of_ble_eq_true rfl) dX3_greatestAbove_43 ?_
          refine u_top (y := mx a ((d i j) - (md i j))) rfl ?_
          refine lv_istore_n (lv' := [(2, .int (mx a ((d i j) - (md i j)))), (4, .int (nI j)), (0, .ref (ad 1)), (1, .ref (ad 9)), (3, .int (nI i))]) hx hb dX3_greatestAbove_46 rfl hl (by decide) rfl (fun ls hl => ?_)
          refine lv_iinc (v := nI (j + 1)) (lv' := [(4, .int (nI (j + 1))), (2, .int (mx a ((d i j) - (md i j)))), (0, .ref (ad 1)), (1, .ref (ad 9)), (3, .int (nI i))]) hx hb dX3_greatestAbove_47 hl (k := 1) rfl (nI_1 _) (by decide) rfl (fun ls hl => ?_)
          refine lv_goto (tgt := 17) hx hb dX3_greatestAbove_50 (by decide) ?_
          exact ih17  (j + 1) (mx a ((d i j) - (md i j))) (by omega) r17 H locs hW ls (lv_sub hl [0, 2, 3, 1, 4] rfl)
      exact L17 (n - (i + 1)) (i + 1) a (by omega) r4 H locs hW ls (lv_sub hl [0, 2, 3, 4, 1] rfl)
  exact L4 n 0 0 (by omega) rfl H locs hW ls (lv_sub hl [0, 2, 3, 1] rfl)
set_option maxHeartbeats 4000000 in
set_option maxRecDepth 100000 in
theorem c_sumOfD (l : Launch) (D : va_G) (cyI cO cyZ : ClassId) (ad : Nat → Nat) (fa : Nat) (n : Nat) (d md : Nat → Nat → Int32) (go ke ha : Nat → Int32) (wy : Nat → Nat → Int32) (ab be sr : Int32)  (hn : n ≤ 6) : Ct l yX3_sumOf (Cond.code yX3_sumOf cX3_sumOf 5 (some .int) :: wsL_law) ({ frames := 0, cells := 0, slots := 0, locals := 0 } : Room) D (ty3 cyI cO cyZ) 29 ad fa [.ref (ad 1), .ref (ad 2)] (cC cyI cO ad n d md go ke ha wy ab be sr) (cC cyI cO ad n d md go ke ha wy ab be sr) (some (.int (suV n d))) := by
  refine Ct.of (by decide) (Nat.le_of_ble_eq_true rfl) ?_
  intro p e s m args below meth c A C hr H locs hW ls hl
  have C : Cx p s m args meth c cX3_sumOf 5 RX3 D (ty3 cyI cO cyZ) fa A := C
  have hx := C.1
  have hb := C.2.1
  have hl : lv_has ls 5 [(0, .ref (ad 1)), (1, .ref (ad 2))] := hl
  refine lv_iconst (v := 0) hx hb dX3_sumOf_0 (by decide) ?_
  refine lv_istore_n (lv' := [(2, .int 0), (0, .ref (ad 1)), (1, .ref (ad 2))]) hx hb dX3_sumOf_1 rfl hl (by decide) rfl (fun ls hl => ?_)
  refine lv_iconst (v := 0) hx hb dX3_sumOf_2 (by decide) ?_
  refine lv_istore_n (lv' := [(3, .int 0), (2, .int 0), (0, .ref (ad 1)), (1, .ref (ad 2))]) hx hb dX3_sumOf_3 rfl hl (by decide) rfl (fun ls hl => ?_)
  have L4 : ∀ (k4 : Nat) (i : Nat) (a : Int32), i + k4 = n → lp (fun a i => lp (fun a j => a + d i j) (i + 1) (n - (i + 1)) a) i k4 a = suV n d → ∀ (H : Heap) (locs : List Loc), Wd D 29 ad (cC cyI cO ad n d md go ke ha wy ab be sr) A s.heap H locs → ∀ ls : Array Slot, lv_has ls 5 [(3, .int (nI i)), (0, .ref (ad 1)), (1, .ref (ad 2)), (2, .int a)] → W p l e ({ frames := 0, cells := 0, slots := 0, locals := 0 } : Room) s m args below meth c H locs 0 0 (MQ below (uQ D 29 ad (cC cyI cO ad n d md go ke ha wy ab be sr) (some (.int (suV n d))) A) args s 0 0 A) (F0 m 4 ls []) := by
    intro k4
    induction k4 with
    | zero =>
      intro i a hi r4 H locs hW ls hl
      refine lv_iload_n hx hb dX3_sumOf_4 rfl (lv_at hl 0 rfl) ?_
      refine lv_aload_n hx hb dX3_sumOf_5 rfl (lv_at hl 1 rfl) ?_
      refine u_get C hW inlX3 (by decide) cC_1 rfl 2 (by decide) mw_62 rfl dX3_sumOf_6 ?_
      refine lv_icmp_ge (tgt := 47) hx hb dX3_sumOf_9 (by decide) (fun _ => ?_) (fun c9 => absurd (nI_le (by omega) (by omega)) c9)
      refine lv_iload_n hx hb dX3_sumOf_47 rfl (lv_at hl 3 rfl) ?_
      exact u_iret C hr hW dX3_sumOf_48 r4 rfl
    | succ k4 ih4 =>
      intro i a hi r4 H locs hW ls hl
      refine lv_iload_n hx hb dX3_sumOf_4 rfl (lv_at hl 0 rfl) ?_
      refine lv_aload_n hx hb dX3_sumOf_5 rfl (lv_at hl 1 rfl) ?_
      refine u_get C hW inlX3 (by decide) cC_1 rfl 2 (by decide) mw_62 rfl dX3_sumOf_6 ?_
      refine lv_icmp_ge (tgt := 47) hx hb dX3_sumOf_9 (by decide) (fun c9 => absurd c9 (nI_ge (by omega) (by omega))) (fun _ => ?_)
      refine lv_iload_n hx hb dX3_sumOf_12 rfl (lv_at hl 0 rfl) ?_
      refine lv_iconst (v := 1) hx hb dX3_sumOf_13 (by decide) ?_
      refine lv_iadd hx hb dX3_sumOf_14 ?_
      refine u_top (show (nI i) + 1 = nI (i + 1) from nI_add i 1) ?_
      refine lv_istore (lv' := [(4, .int (nI (i + 1))), (3, .int (nI i)), (0, .ref (ad 1)), (1, .ref (ad 2)), (2, .int a)]) hx hb dX3_sumOf_15 hl (by decide) rfl (fun ls hl => ?_)
      have L17 : ∀ (k17 : Nat) (j : Nat) (a : Int32), j + k17 = n → lp (fun a i => lp (fun a j => a + d i j) (i + 1) (n - (i + 1)) a) (i + 1) k4 (lp (fun a j => a + d i j) j k17 a) = suV n d → ∀ (H : Heap) (locs : List Loc), Wd D 29 ad (cC cyI cO ad n d md go ke ha wy ab be sr) A s.heap H locs → ∀ ls : Array Slot, lv_has ls 5 [(4, .int (nI j)), (0, .ref (ad 1)), (1, .ref (ad 2)), (2, .int a), (3, .int (nI i))] → W p l e ({ frames := 0, cells := 0, slots := 0, locals := 0 } : Room) s m args below meth c H locs 0 0 (MQ below (uQ D 29 ad (cC cyI cO ad n d md go ke ha wy ab be sr) (some (.int (suV n d))) A) args s 0 0 A) (F0 m 17 ls []) := by
        intro k17
        induction k17 with
        | zero =>
          intro j a hj r17 H locs hW ls hl
          refine lv_iload hx hb dX3_sumOf_17 (lv_at hl 0 rfl) ?_
          refine lv_aload_n hx hb dX3_sumOf_19 rfl (lv_at hl 1 rfl) ?_
          refine u_get C hW inlX3 (by decide) cC_1 rfl 2 (by decide) mw_62 rfl dX3_sumOf_20 ?_
          refine lv_icmp_ge (tgt := 41) hx hb dX3_sumOf_23 (by decide) (fun _ => ?_) (fun c9 => absurd (nI_le (by omega) (by omega)) c9)
          refine lv_iinc (v := nI (i + 1)) (lv' := [(3, .int (nI (i + 1))), (4, .int (nI j)), (0, .ref (ad 1)), (1, .ref (ad 2)), (2, .int a)]) hx hb dX3_sumOf_41 hl (k := 4) rfl (nI_1 _) (by decide) rfl (fun ls hl => ?_)
          refine lv_goto (tgt := 4) hx hb dX3_sumOf_44 (by decide) ?_
          exact ih4  (i + 1) a (by omega) r17 H locs hW ls (lv_sub hl [0, 2, 3, 4] rfl)
        | succ k17 ih17 =>
          intro j a hj r17 H locs hW ls hl
          refine lv_iload hx hb dX3_sumOf_17 (lv_at hl 0 rfl) ?_
          refine lv_aload_n hx hb dX3_sumOf_19 rfl (lv_at hl 1 rfl) ?_
          refine u_get C hW inlX3 (by decide) cC_1 rfl 2 (by decide) mw_62 rfl dX3_sumOf_20 ?_
          refine lv_icmp_ge (tgt := 41) hx hb dX3_sumOf_23 (by decide) (fun c9 => absurd c9 (nI_ge (by omega) (by omega))) (fun _ => ?_)
          refine lv_iload_n hx hb dX3_sumOf_26 rfl (lv_at hl 3 rfl) ?_
          refine lv_aload_n hx hb dX3_sumOf_27 rfl (lv_at hl 2 rfl) ?_
          refine lv_iload_n hx hb dX3_sumOf_28 rfl (lv_at hl 4 rfl) ?_
          refine u_aald C hW (by decide) cC_2 1 rfl i rfl (by omega) (by decide) (cC_outer (by omega)) dX3_sumOf_29 ?_
          refine lv_iload hx hb dX3_sumOf_30 (lv_at hl 0 rfl) ?_
          refine u_iald C hW (by omega) (cC_d (by omega)) 0 rfl j rfl (by omega) (by decide) dX3_sumOf_32 ?_
          refine lv_iadd hx hb dX3_sumOf_33 ?_
          refine lv_istore_n (lv' := [(2, .int (a + (d i j))), (4, .int (nI j)), (0, .ref (ad 1)), (1, .ref (ad 2)), (3, .int (nI i))]) hx hb dX3_sumOf_34 rfl hl (by decide) rfl (fun ls hl => ?_)
          refine lv_iinc (v := nI (j + 1)) (lv' := [(4, .int (nI (j + 1))), (2, .int (a + (d i j))), (0, .ref (ad 1)), (1, .ref (ad 2)), (3, .int (nI i))]) hx hb dX3_sumOf_35 hl (k := 1) rfl (nI_1 _) (by decide) rfl (fun ls hl => ?_)
          refine lv_goto (tgt := 17) hx hb dX3_sumOf_38 (by decide) ?_
          exact ih17  (j + 1) (a + (d i j)) (by omega) r17 H locs hW ls (lv_sub hl [0, 2, 3, 1, 4] rfl)
      exact L17 (n - (i + 1)) (i + 1) a (by omega) r4 H locs hW ls (lv_sub hl [0, 2, 3, 4, 1] rfl)
  exact L4 n 0 0 (by omega) rfl H locs hW ls (lv_sub hl [0, 2, 3, 1] rfl)
set_option maxHeartbeats 4000000 in
set_option maxRecDepth 100000 in
theorem c_sumOfW (l : Launch) (D : va_G) (cyI cO cyZ : ClassId) (ad : Nat → Nat) (fa : Nat) (n : Nat) (d md : Nat → Nat → Int32) (go ke ha : Nat → Int32) (wy : Nat → Nat → Int32) (ab be sr : Int32)  (hn : n ≤ 6) : Ct l yX3_sumOf (Cond.code yX3_sumOf cX3_sumOf 5 (some .int) :: wsL_law) ({ frames := 0, cells := 0, slots := 0, locals := 0 } : Room) D (ty3 cyI cO cyZ) 29 ad fa [.ref (ad 1), .ref (ad 20)] (cC cyI cO ad n d md go ke ha wy ab be sr) (cC cyI cO ad n d md go ke ha wy ab be sr) (some (.int (suV n wy))) := by
  refine Ct.of (by decide) (Nat.le_of_ble_eq_true rfl) ?_
  intro p e s m args below meth c A C hr H locs hW ls hl
  have C : Cx p s m args meth c cX3_sumOf 5 RX3 D (ty3 cyI cO cyZ) fa A := C
  have hx := C.1
  have hb := C.2.1
  have hl : lv_has ls 5 [(0, .ref (ad 1)), (1, .ref (ad 20))] := hl
  refine lv_iconst (v := 0) hx hb dX3_sumOf_0 (by decide) ?_
  refine lv_istore_n (lv' := [(2, .int 0), (0, .ref (ad 1)), (1, .ref (ad 20))]) hx hb dX3_sumOf_1 rfl hl (by decide) rfl (fun ls hl => ?_)
  refine lv_iconst (v := 0) hx hb dX3_sumOf_2 (by decide) ?_
  refine lv_istore_n (lv' := [(3, .int 0), (2, .int 0), (0, .ref (ad 1)), (1, .ref (ad 20))]) hx hb dX3_sumOf_3 rfl hl (by decide) rfl (fun ls hl => ?_)
  have L4 : ∀ (k4 : Nat) (i : Nat) (a : Int32), i + k4 = n → lp (fun a i => lp (fun a j => a + wy i j) (i + 1) (n - (i + 1)) a) i k4 a = suV n wy → ∀ (H : Heap) (locs : List Loc), Wd D 29 ad (cC cyI cO ad n d md go ke ha wy ab be sr) A s.heap H locs → ∀ ls : Array Slot, lv_has ls 5 [(3, .int (nI i)), (0, .ref (ad 1)), (1, .ref (ad 20)), (2, .int a)] → W p l e ({ frames := 0, cells := 0, slots := 0, locals := 0 } : Room) s m args below meth c H locs 0 0 (MQ below (uQ D 29 ad (cC cyI cO ad n d md go ke ha wy ab be sr) (some (.int (suV n wy))) A) args s 0 0 A) (F0 m 4 ls []) := by
    intro k4
    induction k4 with
    | zero =>
      intro i a hi r4 H locs hW ls hl
      refine lv_iload_n hx hb dX3_sumOf_4 rfl (lv_at hl 0 rfl) ?_
      refine lv_aload_n hx hb dX3_sumOf_5 rfl (lv_at hl 1 rfl) ?_
      refine u_get C hW inlX3 (by decide) cC_1 rfl 2 (by decide) mw_62 rfl dX3_sumOf_6 ?_
      refine lv_icmp_ge (tgt := 47) hx hb dX3_sumOf_9 (by decide) (fun _ => ?_) (fun c9 => absurd (nI_le (by omega) (by omega)) c9)
      refine lv_iload_n hx hb dX3_sumOf_47 rfl (lv_at hl 3 rfl) ?_
      exact u_iret C hr hW dX3_sumOf_48 r4 rfl
    | succ k4 ih4 =>
      intro i a hi r4 H locs hW ls hl
      refine lv_iload_n hx hb dX3_sumOf_4 rfl (lv_at hl 0 rfl) ?_
      refine lv_aload_n hx hb dX3_sumOf_5 rfl (lv_at hl 1 rfl) ?_
      refine u_get C hW inlX3 (by decide) cC_1 rfl 2 (by decide) mw_62 rfl dX3_sumOf_6 ?_
      refine lv_icmp_ge (tgt := 47) hx hb dX3_sumOf_9 (by decide) (fun c9 => absurd c9 (nI_ge (by omega) (by omega))) (fun _ => ?_)
      refine lv_iload_n hx hb dX3_sumOf_12 rfl (lv_at hl 0 rfl) ?_
      refine lv_iconst (v := 1) hx hb dX3_sumOf_13 (by decide) ?_
      refine lv_iadd hx hb dX3_sumOf_14 ?_
      refine u_top (show (nI i) + 1 = nI (i + 1) from nI_add i 1) ?_
      refine lv_istore (lv' := [(4, .int (nI (i + 1))), (3, .int (nI i)), (0, .ref (ad 1)), (1, .ref (ad 20)), (2, .int a)]) hx hb dX3_sumOf_15 hl (by decide) rfl (fun ls hl => ?_)
      have L17 : ∀ (k17 : Nat) (j : Nat) (a : Int32), j + k17 = n → lp (fun a i => lp (fun a j => a + wy i j) (i + 1) (n - (i + 1)) a) (i + 1) k4 (lp (fun a j => a + wy i j) j k17 a) = suV n wy → ∀ (H : Heap) (locs : List Loc), Wd D 29 ad (cC cyI cO ad n d md go ke ha wy ab be sr) A s.heap H locs → ∀ ls : Array Slot, lv_has ls 5 [(4, .int (nI j)), (0, .ref (ad 1)), (1, .ref (ad 20)), (2, .int a), (3, .int (nI i))] → W p l e ({ frames := 0, cells := 0, slots := 0, locals := 0 } : Room) s m args below meth c H locs 0 0 (MQ below (uQ D 29 ad (cC cyI cO ad n d md go ke ha wy ab be sr) (some (.int (suV n wy))) A) args s 0 0 A) (F0 m 17 ls []) := by
        intro k17
        induction k17 with
        | zero =>
          intro j a hj r17 H locs hW ls hl
          refine lv_iload hx hb dX3_sumOf_17 (lv_at hl 0 rfl) ?_
          refine lv_aload_n hx hb dX3_sumOf_19 rfl (lv_at hl 1 rfl) ?_
          refine u_get C hW inlX3 (by decide) cC_1 rfl 2 (by decide) mw_62 rfl dX3_sumOf_20 ?_
          refine lv_icmp_ge (tgt := 41) hx hb dX3_sumOf_23 (by decide) (fun _ => ?_) (fun c9 => absurd (nI_le (by omega) (by omega)) c9)
          refine lv_iinc (v := nI (i + 1)) (lv' := [(3, .int (nI (i + 1))), (4, .int (nI j)), (0, .ref (ad 1)), (1, .ref (ad 20)), (2, .int a)]) hx hb dX3_sumOf_41 hl (k := 4) rfl (nI_1 _) (by decide) rfl (fun ls hl => ?_)
          refine lv_goto (tgt := 4) hx hb dX3_sumOf_44 (by decide) ?_
          exact ih4  (i + 1) a (by omega) r17 H locs hW ls (lv_sub hl [0, 2, 3, 4] rfl)
        | succ k17 ih17 =>
          intro j a hj r17 H locs hW ls hl
          refine lv_iload hx hb dX3_sumOf_17 (lv_at hl 0 rfl) ?_
          refine lv_aload_n hx hb dX3_sumOf_19 rfl (lv_at hl 1 rfl) ?_
          refine u_get C hW inlX3 (by decide) cC_1 rfl 2 (by decide) mw_62 rfl dX3_sumOf_20 ?_
          refine lv_icmp_ge (tgt := 41) hx hb dX3_sumOf_23 (by decide) (fun c9 => absurd c9 (nI_ge (by omega) (by omega))) (fun _ => ?_)
          refine lv_iload_n hx hb dX3_sumOf_26 rfl (lv_at hl 3 rfl) ?_
          refine lv_aload_n hx hb dX3_sumOf_27 rfl (lv_at hl 2 rfl) ?_
          refine lv_iload_n hx hb dX3_sumOf_28 rfl (lv_at hl 4 rfl) ?_
          refine u_aald C hW (by decide) cC_20 1 rfl i rfl (by omega) (by decide) (cC_outer (by omega)) dX3_sumOf_29 ?_
          refine lv_iload hx hb dX3_sumOf_30 (lv_at hl 0 rfl) ?_
          refine u_iald C hW (by omega) (cC_w (by omega)) 0 rfl j rfl (by omega) (by decide) dX3_sumOf_32 ?_
          refine lv_iadd hx hb dX3_sumOf_33 ?_
          refine lv_istore_n (lv' := [(2, .int (a + (wy i j))), (4, .int (nI j)), (0, .ref (ad 1)), (1, .ref (ad 20)), (3, .int (nI i))]) hx hb dX3_sumOf_34 rfl hl (by decide) rfl (fun ls hl => ?_)
          refine lv_iinc (v := nI (j + 1)) (lv' := [(4, .int (nI (j + 1))), (2, .int (a + (wy i j))), (0, .ref (ad 1)), (1, .ref (ad 20)), (3, .int (nI i))]) hx hb dX3_sumOf_35 hl (k := 1) rfl (nI_1 _) (by decide) rfl (fun ls hl => ?_)
          refine lv_goto (tgt := 17) hx hb dX3_sumOf_38 (by decide) ?_
          exact ih17  (j + 1) (a + (wy i j)) (by omega) r17 H locs hW ls (lv_sub hl [0, 2, 3, 1, 4] rfl)
      exact L17 (n - (i + 1)) (i + 1) a (by omega) r4 H locs hW ls (lv_sub hl [0, 2, 3, 4, 1] rfl)
  exact L4 n 0 0 (by omega) rfl H locs hW ls (lv_sub hl [0, 2, 3, 1] rfl)
set_option maxHeartbeats 4000000 in
set_option maxRecDepth 100000 in
theorem c_greatestOfD (l : Launch) (D : va_G) (cyI cO cyZ : ClassId) (ad : Nat → Nat) (fa : Nat) (n : Nat) (d md : Nat → Nat → Int32) (go ke ha : Nat → Int32) (wy : Nat → Nat → Int32) (ab be sr : Int32)  (hn : n ≤ 6) : Ct l yX3_greatestOf (Cond.code yX3_greatestOf cX3_greatestOf 5 (some .int) :: wsL_law) ({ frames := 1, cells := 0, slots := 0, locals := 26 } : Room) D (ty3 cyI cO cyZ) 29 ad fa [.ref (ad 1), .ref (ad 2)] (cC cyI cO ad n d md go ke ha wy ab be sr) (cC cyI cO ad n d md go ke ha wy ab be sr) (some (.int (goV n d))) := by
  refine Ct.of (by decide) (Nat.le_of_ble_eq_true rfl) ?_
  intro p e s m args below meth c A C hr H locs hW ls hl
  have C : Cx p s m args meth c cX3_greatestOf 5 RX3 D (ty3 cyI cO cyZ) fa A := C
  have hx := C.1
  have hb := C.2.1
  have hl : lv_has ls 5 [(0, .ref (ad 1)), (1, .ref (ad 2))] := hl
  refine lv_iconst (v := 0) hx hb dX3_greatestOf_0 (by decide) ?_
  refine lv_istore_n (lv' := [(2, .int 0), (0, .ref (ad 1)), (1, .ref (ad 2))]) hx hb dX3_greatestOf_1 rfl hl (by decide) rfl (fun ls hl => ?_)
  refine lv_iconst (v := 0) hx hb dX3_greatestOf_2 (by decide) ?_
  refine lv_istore_n (lv' := [(3, .int 0), (2, .int 0), (0, .ref (ad 1)), (1, .ref (ad 2))]) hx hb dX3_greatestOf_3 rfl hl (by decide) rfl (fun ls hl => ?_)
  have L4 : ∀ (k4 : Nat) (i : Nat) (a : Int32), i + k4 = n → lp (fun a i => lp (fun a j => mx a (d i j)) (i + 1) (n - (i + 1)) a) i k4 a = goV n d → ∀ (H : Heap) (locs : List Loc), Wd D 29 ad (cC cyI cO ad n d md go ke ha wy ab be sr) A s.heap H locs → ∀ ls : Array Slot, lv_has ls 5 [(3, .int (nI i)), (0, .ref (ad 1)), (1, .ref (ad 2)), (2, .int a)] → W p l e ({ frames := 1, cells := 0, slots := 0, locals := 26 } : Room) s m args below meth c H locs 0 0 (MQ below (uQ D 29 ad (cC cyI cO ad n d md go ke ha wy ab be sr) (some (.int (goV n d))) A) args s 0 0 A) (F0 m 4 ls []) := by
    intro k4
    induction k4 with
    | zero =>
      intro i a hi r4 H locs hW ls hl
      refine lv_iload_n hx hb dX3_greatestOf_4 rfl (lv_at hl 0 rfl) ?_
      refine lv_aload_n hx hb dX3_greatestOf_5 rfl (lv_at hl 1 rfl) ?_
      refine u_get C hW inlX3 (by decide) cC_1 rfl 2 (by decide) mw_62 rfl dX3_greatestOf_6 ?_
      refine lv_icmp_ge (tgt := 49) hx hb dX3_greatestOf_9 (by decide) (fun _ => ?_) (fun c9 => absurd (nI_le (by omega) (by omega)) c9)
      refine lv_iload_n hx hb dX3_greatestOf_49 rfl (lv_at hl 3 rfl) ?_
      exact u_iret C hr hW dX3_greatestOf_50 r4 rfl
    | succ k4 ih4 =>
      intro i a hi r4 H locs hW ls hl
      refine lv_iload_n hx hb dX3_greatestOf_4 rfl (lv_at hl 0 rfl) ?_
      refine lv_aload_n hx hb dX3_greatestOf_5 rfl (lv_at hl 1 rfl) ?_
      refine u_get C hW inlX3 (by decide) cC_1 rfl 2 (by decide) mw_62 rfl dX3_greatestOf_6 ?_
      refine lv_icmp_ge (tgt := 49) hx hb dX3_greatestOf_9 (by decide) (fun c9 => absurd c9 (nI_ge (by omega) (by omega))) (fun _ => ?_)
      refine lv_iload_n hx hb dX3_greatestOf_12 rfl (lv_at hl 0 rfl) ?_
      refine lv_iconst (v := 1) hx hb dX3_greatestOf_13 (by decide) ?_
      refine lv_iadd hx hb dX3_greatestOf_14 ?_
      refine u_top (show (nI i) + 1 = nI (i + 1) from nI_add i 1) ?_
      refine lv_istore (lv' := [(4, .int (nI (i + 1))), (3, .int (nI i)), (0, .ref (ad 1)), (1, .ref (ad 2)), (2, .int a)]) hx hb dX3_greatestOf_15 hl (by decide) rfl (fun ls hl => ?_)
      have L17 : ∀ (k17 : Nat) (j : Nat) (a : Int32), j + k17 = n → lp (fun a i => lp (fun a j => mx a (d i j)) (i + 1) (n - (i + 1)) a) (i + 1) k4 (lp (fun a j => mx a (d i j)) j k17 a) = goV n d → ∀ (H : Heap) (locs : List Loc), Wd D 29 ad (cC cyI cO ad n d md go ke ha wy ab be sr) A s.heap H locs → ∀ ls : Array Slot, lv_has ls 5 [(4, .int (nI j)), (0, .ref (ad 1)), (1, .ref (ad 2)), (2, .int a), (3, .int (nI i))] → W p l e ({ frames := 1, cells := 0, slots := 0, locals := 26 } : Room) s m args below meth c H locs 0 0 (MQ below (uQ D 29 ad (cC cyI cO ad n d md go ke ha wy ab be sr) (some (.int (goV n d))) A) args s 0 0 A) (F0 m 17 ls []) := by
        intro k17
        induction k17 with
        | zero =>
          intro j a hj r17 H locs hW ls hl
          refine lv_iload hx hb dX3_greatestOf_17 (lv_at hl 0 rfl) ?_
          refine lv_aload_n hx hb dX3_greatestOf_19 rfl (lv_at hl 1 rfl) ?_
          refine u_get C hW inlX3 (by decide) cC_1 rfl 2 (by decide) mw_62 rfl dX3_greatestOf_20 ?_
          refine lv_icmp_ge (tgt := 43) hx hb dX3_greatestOf_23 (by decide) (fun _ => ?_) (fun c9 => absurd (nI_le (by omega) (by omega)) c9)
          refine lv_iinc (v := nI (i + 1)) (lv' := [(3, .int (nI (i + 1))), (4, .int (nI j)), (0, .ref (ad 1)), (1, .ref (ad 2)), (2, .int a)]) hx hb dX3_greatestOf_43 hl (k := 4) rfl (nI_1 _) (by decide) rfl (fun ls hl => ?_)
          refine lv_goto (tgt := 4) hx hb dX3_greatestOf_46 (by decide) ?_
          exact ih4  (i + 1) a (by omega) r17 H locs hW ls (lv_sub hl [0, 2, 3, 4] rfl)
        | succ k17 ih17 =>
          intro j a hj r17 H locs hW ls hl
          refine lv_iload hx hb dX3_greatestOf_17 (lv_at hl 0 rfl) ?_
          refine lv_aload_n hx hb dX3_greatestOf_19 rfl (lv_at hl 1 rfl) ?_
          refine u_get C hW inlX3 (by decide) cC_1 rfl 2 (by decide) mw_62 rfl dX3_greatestOf_20 ?_
          refine lv_icmp_ge (tgt := 43) hx hb dX3_greatestOf_23 (by decide) (fun c9 => absurd c9 (nI_ge (by omega) (by omega))) (fun _ => ?_)
          refine lv_iload_n hx hb dX3_greatestOf_26 rfl (lv_at hl 3 rfl) ?_
          refine lv_aload_n hx hb dX3_greatestOf_27 rfl (lv_at hl 2 rfl) ?_
          refine lv_iload_n hx hb dX3_greatestOf_28 rfl (lv_at hl 4 rfl) ?_
          refine u_aald C hW (by decide) cC_2 1 rfl i rfl (by omega) (by decide) (cC_outer (by omega)) dX3_greatestOf_29 ?_
          refine lv_iload hx hb dX3_greatestOf_30 (lv_at hl 0 rfl) ?_
          refine u_iald C hW (by omega) (cC_d (by omega)) 0 rfl j rfl (by omega) (by decide) dX3_greatestOf_32 ?_
          refine u_max C mw_145 hl (by decide) (Nat.le_of_ble_eq_true rfl) dX3_greatestOf_33 ?_
          refine u_top (y := mx a (d i j)) rfl ?_
          refine lv_istore_n (lv' := [(2, .int (mx a (d i j))), (4, .int (nI j)), (0, .ref (ad 1)), (1, .ref (ad 2)), (3, .int (nI i))]) hx hb dX3_greatestOf_36 rfl hl (by decide) rfl (fun ls hl => ?_)
          refine lv_iinc (v := nI (j + 1)) (lv' := [(4, .int (nI (j + 1))), (2, .int (mx a (d i j))), (0, .ref (ad 1)), (1, .ref (ad 2)), (3, .int (nI i))]) hx hb dX3_greatestOf_37 hl (k := 1) rfl (nI_1 _) (by decide) rfl (fun ls hl => ?_)
          refine lv_goto (tgt := 17) hx hb dX3_greatestOf_40 (by decide) ?_
          exact ih17  (j + 1) (mx a (d i j)) (by omega) r17 H locs hW ls (lv_sub hl [0, 2, 3, 1, 4] rfl)
      exact L17 (n - (i + 1)) (i + 1) a (by omega) r4 H locs hW ls (lv_sub hl [0, 2, 3, 4, 1] rfl)
  exact L4 n 0 0 (by omega) rfl H locs hW ls (lv_sub hl [0, 2, 3, 1] rfl)
set_option maxHeartbeats 4000000 in
set_option maxRecDepth 100000 in
theorem c_greatestOfW (l : Launch) (D : va_G) (cyI cO cyZ : ClassId) (ad : Nat → Nat) (fa : Nat) (n : Nat) (d md : Nat → Nat → Int32) (go ke ha : Nat → Int32) (wy : Nat → Nat → Int32) (ab be sr : Int32)  (hn : n ≤ 6) : Ct l yX3_greatestOf (Cond.code yX3_greatestOf cX3_greatestOf 5 (some .int) :: wsL_law) ({ frames := 1, cells := 0, slots := 0, locals := 26 } : Room) D (ty3 cyI cO cyZ) 29 ad fa [.ref (ad 1), .ref (ad 20)] (cC cyI cO ad n d md go ke ha wy ab be sr) (cC cyI cO ad n d md go ke ha wy ab be sr) (some (.int (goV n wy))) := by
  refine Ct.of (by decide) (Nat.le_of_ble_eq_true rfl) ?_
  intro p e s m args below meth c A C hr H locs hW ls hl
  have C : Cx p s m args meth c cX3_greatestOf 5 RX3 D (ty3 cyI cO cyZ) fa A := C
  have hx := C.1
  have hb := C.2.1
  have hl : lv_has ls 5 [(0, .ref (ad 1)), (1, .ref (ad 20))] := hl
  refine lv_iconst (v := 0) hx hb dX3_greatestOf_0 (by decide) ?_
  refine lv_istore_n (lv' := [(2, .int 0), (0, .ref (ad 1)), (1, .ref (ad 20))]) hx hb dX3_greatestOf_1 rfl hl (by decide) rfl (fun ls hl => ?_)
  refine lv_iconst (v := 0) hx hb dX3_greatestOf_2 (by decide) ?_
  refine lv_istore_n (lv' := [(3, .int 0), (2, .int 0), (0, .ref (ad 1)), (1, .ref (ad 20))]) hx hb dX3_greatestOf_3 rfl hl (by decide) rfl (fun ls hl => ?_)
  have L4 : ∀ (k4 : Nat) (i : Nat) (a : Int32), i + k4 = n → lp (fun a i => lp (fun a j => mx a (wy i j)) (i + 1) (n - (i + 1)) a) i k4 a = goV n wy → ∀ (H : Heap) (locs : List Loc), Wd D 29 ad (cC cyI cO ad n d md go ke ha wy ab be sr) A s.heap H locs → ∀ ls : Array Slot, lv_has ls 5 [(3, .int (nI i)), (0, .ref (ad 1)), (1, .ref (ad 20)), (2, .int a)] → W p l e ({ frames := 1, cells := 0, slots := 0, locals := 26 } : Room) s m args below meth c H locs 0 0 (MQ below (uQ D 29 ad (cC cyI cO ad n d md go ke ha wy ab be sr) (some (.int (goV n wy))) A) args s 0 0 A) (F0 m 4 ls []) := by
    intro k4
    induction k4 with
    | zero =>
      intro i a hi r4 H locs hW ls hl
      refine lv_iload_n hx hb dX3_greatestOf_4 rfl (lv_at hl 0 rfl) ?_
      refine lv_aload_n hx hb dX3_greatestOf_5 rfl (lv_at hl 1 rfl) ?_
      refine u_get C hW inlX3 (by decide) cC_1 rfl 2 (by decide) mw_62 rfl dX3_greatestOf_6 ?_
      refine lv_icmp_ge (tgt := 49) hx hb dX3_greatestOf_9 (by decide) (fun _ => ?_) (fun c9 => absurd (nI_le (by omega) (by omega)) c9)
      refine lv_iload_n hx hb dX3_greatestOf_49 rfl (lv_at hl 3 rfl) ?_
      exact u_iret C hr hW dX3_greatestOf_50 r4 rfl
    | succ k4 ih4 =>
      intro i a hi r4 H locs hW ls hl
      refine lv_iload_n hx hb dX3_greatestOf_4 rfl (lv_at hl 0 rfl) ?_
      refine lv_aload_n hx hb dX3_greatestOf_5 rfl (lv_at hl 1 rfl) ?_
      refine u_get C hW inlX3 (by decide) cC_1 rfl 2 (by decide) mw_62 rfl dX3_greatestOf_6 ?_
      refine lv_icmp_ge (tgt := 49) hx hb dX3_greatestOf_9 (by decide) (fun c9 => absurd c9 (nI_ge (by omega) (by omega))) (fun _ => ?_)
      refine lv_iload_n hx hb dX3_greatestOf_12 rfl (lv_at hl 0 rfl) ?_
      refine lv_iconst (v := 1) hx hb dX3_greatestOf_13 (by decide) ?_
      refine lv_iadd hx hb dX3_greatestOf_14 ?_
      refine u_top (show (nI i) + 1 = nI (i + 1) from nI_add i 1) ?_
      refine lv_istore (lv' := [(4, .int (nI (i + 1))), (3, .int (nI i)), (0, .ref (ad 1)), (1, .ref (ad 20)), (2, .int a)]) hx hb dX3_greatestOf_15 hl (by decide) rfl (fun ls hl => ?_)
      have L17 : ∀ (k17 : Nat) (j : Nat) (a : Int32), j + k17 = n → lp (fun a i => lp (fun a j => mx a (wy i j)) (i + 1) (n - (i + 1)) a) (i + 1) k4 (lp (fun a j => mx a (wy i j)) j k17 a) = goV n wy → ∀ (H : Heap) (locs : List Loc), Wd D 29 ad (cC cyI cO ad n d md go ke ha wy ab be sr) A s.heap H locs → ∀ ls : Array Slot, lv_has ls 5 [(4, .int (nI j)), (0, .ref (ad 1)), (1, .ref (ad 20)), (2, .int a), (3, .int (nI i))] → W p l e ({ frames := 1, cells := 0, slots := 0, locals := 26 } : Room) s m args below meth c H locs 0 0 (MQ below (uQ D 29 ad (cC cyI cO ad n d md go ke ha wy ab be sr) (some (.int (goV n wy))) A) args s 0 0 A) (F0 m 17 ls []) := by
        intro k17
        induction k17 with
        | zero =>
          intro j a hj r17 H locs hW ls hl
          refine lv_iload hx hb dX3_greatestOf_17 (lv_at hl 0 rfl) ?_
          refine lv_aload_n hx hb dX3_greatestOf_19 rfl (lv_at hl 1 rfl) ?_
          refine u_get C hW inlX3 (by decide) cC_1 rfl 2 (by decide) mw_62 rfl dX3_greatestOf_20 ?_
          refine lv_icmp_ge (tgt := 43) hx hb dX3_greatestOf_23 (by decide) (fun _ => ?_) (fun c9 => absurd (nI_le (by omega) (by omega)) c9)
          refine lv_iinc (v := nI (i + 1)) (lv' := [(3, .int (nI (i + 1))), (4, .int (nI j)), (0, .ref (ad 1)), (1, .ref (ad 20)), (2, .int a)]) hx hb dX3_greatestOf_43 hl (k := 4) rfl (nI_1 _) (by decide) rfl (fun ls hl => ?_)
          refine lv_goto (tgt := 4) hx hb dX3_greatestOf_46 (by decide) ?_
          exact ih4  (i + 1) a (by omega) r17 H locs hW ls (lv_sub hl [0, 2, 3, 4] rfl)
        | succ k17 ih17 =>
          intro j a hj r17 H locs hW ls hl
          refine lv_iload hx hb dX3_greatestOf_17 (lv_at hl 0 rfl) ?_
          refine lv_aload_n hx hb dX3_greatestOf_19 rfl (lv_at hl 1 rfl) ?_
          refine u_get C hW inlX3 (by decide) cC_1 rfl 2 (by decide) mw_62 rfl dX3_greatestOf_20 ?_
          refine lv_icmp_ge (tgt := 43) hx hb dX3_greatestOf_23 (by decide) (fun c9 => absurd c9 (nI_ge (by omega) (by omega))) (fun _ => ?_)
          refine lv_iload_n hx hb dX3_greatestOf_26 rfl (lv_at hl 3 rfl) ?_
          refine lv_aload_n hx hb dX3_greatestOf_27 rfl (lv_at hl 2 rfl) ?_
          refine lv_iload_n hx hb dX3_greatestOf_28 rfl (lv_at hl 4 rfl) ?_
          refine u_aald C hW (by decide) cC_20 1 rfl i rfl (by omega) (by decide) (cC_outer (by omega)) dX3_greatestOf_29 ?_
          refine lv_iload hx hb dX3_greatestOf_30 (lv_at hl 0 rfl) ?_
          refine u_iald C hW (by omega) (cC_w (by omega)) 0 rfl j rfl (by omega) (by decide) dX3_greatestOf_32 ?_
          refine u_max C mw_145 hl (by decide) (Nat.le_of_ble_eq_true rfl) dX3_greatestOf_33 ?_
          refine u_top (y := mx a (wy i j)) rfl ?_
          refine lv_istore_n (lv' := [(2, .int (mx a (wy i j))), (4, .int (nI j)), (0, .ref (ad 1)), (1, .ref (ad 20)), (3, .int (nI i))]) hx hb dX3_greatestOf_36 rfl hl (by decide) rfl (fun ls hl => ?_)
          refine lv_iinc (v := nI (j + 1)) (lv' := [(4, .int (nI (j + 1))), (2, .int (mx a (wy i j))), (0, .ref (ad 1)), (1, .ref (ad 20)), (3, .int (nI i))]) hx hb dX3_greatestOf_37 hl (k := 1) rfl (nI_1 _) (by decide) rfl (fun ls hl => ?_)
          refine lv_goto (tgt := 17) hx hb dX3_greatestOf_40 (by decide) ?_
          exact ih17  (j + 1) (mx a (wy i j)) (by omega) r17 H locs hW ls (lv_sub hl [0, 2, 3, 1, 4] rfl)
      exact L17 (n - (i + 1)) (i + 1) a (by omega) r4 H locs hW ls (lv_sub hl [0, 2, 3, 4, 1] rfl)
  exact L4 n 0 0 (by omega) rfl H locs hW ls (lv_sub hl [0, 2, 3, 1] rfl)
set_option maxHeartbeats 4000000 in
set_option maxRecDepth 100000 in
theorem c_X4_asAnswer (l : Launch) (D : va_G) (cyI cO cyZ : ClassId) (ad : Nat → Nat) (fa : Nat) (n : Nat) (d md : Nat → Nat → Int32) (go ke ha : Nat → Int32) (wy : Nat → Nat → Int32) (ab be sr : Int32) (b : Int32)  : Ct l yX4_asAnswer (Cond.code yX4_asAnswer cX4_asAnswer 1 (some .int) :: wsL_law) ({ frames := 0, cells := 0, slots := 0, locals := 0 } : Room) D (ty3 cyI cO cyZ) 29 ad fa [.int b] (cC cyI cO ad n d md go ke ha wy ab be sr) (cC cyI cO ad n d md go ke ha wy ab be sr) (some (.int (asA b))) := by
  refine Ct.of (by decide) (Nat.le_of_ble_eq_true rfl) ?_
  intro p e s m args below meth c A C hr H locs hW ls hl
  have C : Cx p s m args meth c cX4_asAnswer 1 RX4 D (ty3 cyI cO cyZ) fa A := C
  have hx := C.1
  have hb := C.2.1
  have hl : lv_has ls 1 [(0, .int b)] := hl
  refine lv_iload_n hx hb dX4_asAnswer_0 rfl (lv_at hl 0 rfl) ?_
  refine lv_if_eq (tgt := 8) hx hb dX4_asAnswer_1 (by decide) (fun c1_1 => ?_) (fun c1_1 => ?_)
  · skip
    refine lv_iconst (v := 0) hx hb dX4_asAnswer_8 (by decide) ?_
    exact u_iret C hr hW dX4_asAnswer_9 (by simp only [asA, if_pos c1_1]) rfl
  · skip
    refine lv_iconst (v := 1) hx hb dX4_asAnswer_4 (by decide) ?_
    refine lv_goto (tgt := 9) hx hb dX4_asAnswer_5 (by decide) ?_
    exact u_iret C hr hW dX4_asAnswer_9 (by simp only [asA, if_neg c1_1]) rfl
set_option maxHeartbeats 4000000 in
set_option maxRecDepth 100000 in
theorem c_X3_groupsWithin (l : Launch) (D : va_G) (cyI cO cyZ : ClassId) (ad : Nat → Nat) (fa : Nat) (n : Nat) (d md : Nat → Nat → Int32) (go ke ha : Nat → Int32) (wy : Nat → Nat → Int32) (ab be sr : Int32) (r : Int32) (hn : n ≤ 6) : Ct l yX3_groupsWithin (Cond.code yX3_groupsWithin cX3_groupsWithin 7 (some .int) :: wsL_law) ({ frames := 4, cells := 0, slots := 0, locals := 94 } : Room) D (ty3 cyI cO cyZ) 29 ad fa [.ref (ad 1), .int r] (cC cyI cO ad n d md go ke ha wy ab be sr) (cC cyI cO ad n d (clV n d md 1) go ke ha wy ab be sr) (some (.int (grV n (clV n d md 1) r))) := by
  refine Ct.of (by decide) (Nat.le_of_ble_eq_true rfl) ?_
  intro p e s m args below meth c A C hr H locs hW ls hl
  have C : Cx p s m args meth c cX3_groupsWithin 7 RX3 D (ty3 cyI cO cyZ) fa A := C
  have hx := C.1
  have hb := C.2.1
  have hl : lv_has ls 7 [(0, .ref (ad 1)), (1, .int r)] := hl
  refine lv_aload_n hx hb dX3_groupsWithin_0 rfl (lv_at hl 0 rfl) ?_
  refine lv_iconst (v := 1) hx hb dX3_groupsWithin_1 (by decide) ?_
  refine u_callV (cf' := cC cyI cO ad n d (clV n d md 1) go ke ha wy ab be sr) (As := [.int 1]) (rest := []) (st1 := [.ref (ad 9)]) C hW (c_X3_closed l D cyI cO cyZ ad fa n d md go ke ha wy ab be sr 1 (by omega)) mv_yX3_closed mw_257 rfl ⟨rfl, rfl, Nat.le_of_ble_eq_true rfl, Nat.le_of_ble_eq_true rfl⟩ (by decide) cC_1 rfl rfl hl (Nat.le_of_ble_eq_true rfl) rfl rfl dX3_groupsWithin_2 (fun H locs hW => ?_)
  refine lv_astore_n (lv' := [(2, .ref (ad 9)), (0, .ref (ad 1)), (1, .int r)]) hx hb dX3_groupsWithin_5 rfl hl (by decide) rfl (fun ls hl => ?_)
  refine lv_iconst (v := 0) hx hb dX3_groupsWithin_6 (by decide) ?_
  refine lv_istore_n (lv' := [(3, .int 0), (2, .ref (ad 9)), (0, .ref (ad 1)), (1, .int r)]) hx hb dX3_groupsWithin_7 rfl hl (by decide) rfl (fun ls hl => ?_)
  refine lv_iconst (v := 0) hx hb dX3_groupsWithin_8 (by decide) ?_
  refine lv_istore (lv' := [(4, .int 0), (3, .int 0), (2, .ref (ad 9)), (0, .ref (ad 1)), (1, .int r)]) hx hb dX3_groupsWithin_9 hl (by decide) rfl (fun ls hl => ?_)
  have L11 : ∀ (k11 : Nat) (i : Nat) (a : Int32), i + k11 = n → lp (fun a i => a + asA (grI (clV n d md 1) r i)) i k11 a = grV n (clV n d md 1) r → ∀ (H : Heap) (locs : List Loc), Wd D 29 ad (cC cyI cO ad n d (clV n d md 1) go ke ha wy ab be sr) A s.heap H locs → ∀ ls : Array Slot, lv_has ls 7 [(4, .int (nI i)), (0, .ref (ad 1)), (1, .int r), (2, .ref (ad 9)), (3, .int a)] → W p l e ({ frames := 4, cells := 0, slots := 0, locals := 94 } : Room) s m args below meth c H locs 0 0 (MQ below (uQ D 29 ad (cC cyI cO ad n d (clV n d md 1) go ke ha wy ab be sr) (some (.int (grV n (clV n d md 1) r))) A) args s 0 0 A) (F0 m 11 ls []) := by
    intro k11
    induction k11 with
    | zero =>
      intro i a hi r11 H locs hW ls hl
      refine lv_iload hx hb dX3_groupsWithin_11 (lv_at hl 0 rfl) ?_
      refine lv_aload_n hx hb dX3_groupsWithin_13 rfl (lv_at hl 1 rfl) ?_
      refine u_get C hW inlX3 (by decide) cC_1 rfl 2 (by decide) mw_62 rfl dX3_groupsWithin_14 ?_
      refine lv_icmp_ge (tgt := 76) hx hb dX3_groupsWithin_17 (by decide) (fun _ => ?_) (fun c9 => absurd (nI_le (by omega) (by omega)) c9)
      refine lv_iload_n hx hb dX3_groupsWithin_76 rfl (lv_at hl 4 rfl) ?_
      exact u_iret C hr hW dX3_groupsWithin_77 r11 rfl
    | succ k11 ih11 =>
      intro i a hi r11 H locs hW ls hl
      refine lv_iload hx hb dX3_groupsWithin_11 (lv_at hl 0 rfl) ?_
      refine lv_aload_n hx hb dX3_groupsWithin_13 rfl (lv_at hl 1 rfl) ?_
      refine u_get C hW inlX3 (by decide) cC_1 rfl 2 (by decide) mw_62 rfl dX3_groupsWithin_14 ?_
      refine lv_icmp_ge (tgt := 76) hx hb dX3_groupsWithin_17 (by decide) (fun c9 => absurd c9 (nI_ge (by omega) (by omega))) (fun _ => ?_)
      refine lv_iconst (v := 1) hx hb dX3_groupsWithin_20 (by decide) ?_
      refine lv_istore (lv' := [(5, .int 1), (4, .int (nI i)), (0, .ref (ad 1)), (1, .int r), (2, .ref (ad 9)), (3, .int a)]) hx hb dX3_groupsWithin_21 hl (by decide) rfl (fun ls hl => ?_)
      refine lv_iconst (v := 0) hx hb dX3_groupsWithin_23 (by decide) ?_
      refine lv_istore (lv' := [(6, .int 0), (5, .int 1), (4, .int (nI i)), (0, .ref (ad 1)), (1, .int r), (2, .ref (ad 9)), (3, .int a)]) hx hb dX3_groupsWithin_24 hl (by decide) rfl (fun ls hl => ?_)
      have L26 : ∀ (k26 : Nat) (j : Nat) (b : Int32), j + k26 = i → lp (fun b j => if b = 0 then 0 else if (clV n d md 1) i j ≤ r then 0 else 1) j k26 b = grI (clV n d md 1) r i → ∀ (H : Heap) (locs : List Loc), Wd D 29 ad (cC cyI cO ad n d (clV n d md 1) go ke ha wy ab be sr) A s.heap H locs → ∀ ls : Array Slot, lv_has ls 7 [(6, .int (nI j)), (0, .ref (ad 1)), (1, .int r), (2, .ref (ad 9)), (3, .int a), (4, .int (nI i)), (5, .int b)] → W p l e ({ frames := 4, cells := 0, slots := 0, locals := 94 } : Room) s m args below meth c H locs 0 0 (MQ below (uQ D 29 ad (cC cyI cO ad n d (clV n d md 1) go ke ha wy ab be sr) (some (.int (grV n (clV n d md 1) r))) A) args s 0 0 A) (F0 m 26 ls []) := by
        intro k26
        induction k26 with
        | zero =>
          intro j b hj r26 H locs hW ls hl
          refine lv_iload hx hb dX3_groupsWithin_26 (lv_at hl 0 rfl) ?_
          refine lv_iload hx hb dX3_groupsWithin_28 (lv_at hl 5 rfl) ?_
          refine lv_icmp_ge (tgt := 62) hx hb dX3_groupsWithin_30 (by decide) (fun _ => ?_) (fun c9 => absurd (nI_le (by omega) (by omega)) c9)
          refine lv_iload_n hx hb dX3_groupsWithin_62 rfl (lv_at hl 4 rfl) ?_
          refine lv_iload hx hb dX3_groupsWithin_63 (lv_at hl 6 rfl) ?_
          refine u_callSN (cf' := cC cyI cO ad n d (clV n d md 1) go ke ha wy ab be sr) (As := [.int b]) (rest := [.int a]) (st1 := [.int (asA b), .int a]) C hW (c_X4_asAnswer l D cyI cO cyZ ad fa n d (clV n d md 1) go ke ha wy ab be sr b ) ms_yX4_asAnswer (List.mem_of_getElem? (i := 14) rfl) rfl ⟨rfl, rfl, Nat.le_of_ble_eq_true rfl, Nat.le_of_ble_eq_true rfl⟩ hl (Nat.le_of_ble_eq_true rfl) rfl rfl dX3_groupsWithin_65 (fun H locs hW => ?_)
          refine lv_iadd hx hb dX3_groupsWithin_68 ?_
          refine lv_istore_n (lv' := [(3, .int (a + (asA b))), (6, .int (nI j)), (0, .ref (ad 1)), (1, .int r), (2, .ref (ad 9)), (4, .int (nI i)), (5, .int b)]) hx hb dX3_groupsWithin_69 rfl hl (by decide) rfl (fun ls hl => ?_)
          refine lv_iinc (v := nI (i + 1)) (lv' := [(4, .int (nI (i + 1))), (3, .int (a + (asA b))), (6, .int (nI j)), (0, .ref (ad 1)), (1, .int r), (2, .ref (ad 9)), (5, .int b)]) hx hb dX3_groupsWithin_70 hl (k := 5) rfl (nI_1 _) (by decide) rfl (fun ls hl => ?_)
          refine lv_goto (tgt := 11) hx hb dX3_groupsWithin_73 (by decide) ?_
          exact ih11  (i + 1) (a + (asA b)) (by omega) (by rw [← r11, lp_s, ← r26]; rfl) H locs hW ls (lv_sub hl [0, 3, 4, 5, 1] rfl)
        | succ k26 ih26 =>
          intro j b hj r26 H locs hW ls hl
          refine lv_iload hx hb dX3_groupsWithin_26 (lv_at hl 0 rfl) ?_
          refine lv_iload hx hb dX3_groupsWithin_28 (lv_at hl 5 rfl) ?_
          refine lv_icmp_ge (tgt := 62) hx hb dX3_groupsWithin_30 (by decide) (fun c9 => absurd c9 (nI_ge (by omega) (by omega))) (fun _ => ?_)
          refine lv_iload hx hb dX3_groupsWithin_33 (lv_at hl 6 rfl) ?_
          refine lv_if_eq (tgt := 53) hx hb dX3_groupsWithin_35 (by decide) (fun c35_1 => ?_) (fun c35_1 => ?_)
          · skip
            refine lv_iconst (v := 0) hx hb dX3_groupsWithin_53 (by decide) ?_
            refine lv_istore (lv' := [(5, .int 0), (6, .int (nI j)), (0, .ref (ad 1)), (1, .int r), (2, .ref (ad 9)), (3, .int a), (4, .int (nI i))]) hx hb dX3_groupsWithin_54 hl (by decide) rfl (fun ls hl => ?_)
            refine lv_iinc (v := nI (j + 1)) (lv' := [(6, .int (nI (j + 1))), (5, .int 0), (0, .ref (ad 1)), (1, .int r), (2, .ref (ad 9)), (3, .int a), (4, .int (nI i))]) hx hb dX3_groupsWithin_56 hl (k := 1) rfl (nI_1 _) (by decide) rfl (fun ls hl => ?_)
            refine lv_goto (tgt := 26) hx hb dX3_groupsWithin_59 (by decide) ?_
            exact ih26  (j + 1) 0 (by omega) (by have h9 := r26; simp only [lp_s, lp_0, if_pos c35_1] at h9; exact h9) H locs hW ls (lv_sub hl [0, 2, 3, 4, 5, 6, 1] rfl)
          · skip
            refine lv_aload_n hx hb dX3_groupsWithin_38 rfl (lv_at hl 3 rfl) ?_
            refine lv_iload hx hb dX3_groupsWithin_39 (lv_at hl 5 rfl) ?_
            refine u_aald C hW (by decide) cC_9 1 rfl i rfl (by omega) (by decide) (cC_outer (by omega)) dX3_groupsWithin_41 ?_
            refine lv_iload hx hb dX3_groupsWithin_42 (lv_at hl 0 rfl) ?_
            refine u_iald C hW (by omega) (cC_m (by omega)) 0 rfl j rfl (by omega) (by decide) dX3_groupsWithin_44 ?_
            refine lv_iload_n hx hb dX3_groupsWithin_45 rfl (lv_at hl 2 rfl) ?_
            refine lv_icmp_le (tgt := 53) hx hb dX3_groupsWithin_46 (by decide) (fun c46_2 => ?_) (fun c46_2 => ?_)
            · skip
              refine lv_iconst (v := 0) hx hb dX3_groupsWithin_53 (by decide) ?_
              refine lv_istore (lv' := [(5, .int 0), (6, .int (nI j)), (0, .ref (ad 1)), (1, .int r), (2, .ref (ad 9)), (3, .int a), (4, .int (nI i))]) hx hb dX3_groupsWithin_54 hl (by decide) rfl (fun ls hl => ?_)
              refine lv_iinc (v := nI (j + 1)) (lv' := [(6, .int (nI (j + 1))), (5, .int 0), (0, .ref (ad 1)), (1, .int r), (2, .ref (ad 9)), (3, .int a), (4, .int (nI i))]) hx hb dX3_groupsWithin_56 hl (k := 1) rfl (nI_1 _) (by decide) rfl (fun ls hl => ?_)
              refine lv_goto (tgt := 26) hx hb dX3_groupsWithin_59 (by decide) ?_
              exact ih26  (j + 1) 0 (by omega) (by have h9 := r26; simp only [lp_s, lp_0, if_neg c35_1, if_pos c46_2] at h9; exact h9) H locs hW ls (lv_sub hl [0, 2, 3, 4, 5, 6, 1] rfl)
            · skip
              refine lv_iconst (v := 1) hx hb dX3_groupsWithin_49 (by decide) ?_
              refine lv_goto (tgt := 54) hx hb dX3_groupsWithin_50 (by decide) ?_
              refine lv_istore (lv' := [(5, .int 1), (6, .int (nI j)), (0, .ref (ad 1)), (1, .int r), (2, .ref (ad 9)), (3, .int a), (4, .int (nI i))]) hx hb dX3_groupsWithin_54 hl (by decide) rfl (fun ls hl => ?_)
              refine lv_iinc (v := nI (j + 1)) (lv' := [(6, .int (nI (j + 1))), (5, .int 1), (0, .ref (ad 1)), (1, .int r), (2, .ref (ad 9)), (3, .int a), (4, .int (nI i))]) hx hb dX3_groupsWithin_56 hl (k := 1) rfl (nI_1 _) (by decide) rfl (fun ls hl => ?_)
              refine lv_goto (tgt := 26) hx hb dX3_groupsWithin_59 (by decide) ?_
              exact ih26  (j + 1) 1 (by omega) (by have h9 := r26; simp only [lp_s, lp_0, if_neg c35_1, if_neg c46_2] at h9; exact h9) H locs hW ls (lv_sub hl [0, 2, 3, 4, 5, 6, 1] rfl)
      exact L26 i 0 1 (by omega) rfl H locs hW ls (lv_sub hl [0, 3, 4, 5, 6, 2, 1] rfl)
  exact L11 n 0 0 (by omega) rfl H locs hW ls (lv_sub hl [0, 3, 4, 2, 1] rfl)
